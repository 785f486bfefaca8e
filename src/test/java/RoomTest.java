import com.sun.management.ThreadMXBean;
import java.lang.management.ManagementFactory;

/** What a run makes: the rows of the object, and nothing more by any call. */
public final class RoomTest {
    private static final ThreadMXBean BEAN = (ThreadMXBean) ManagementFactory.getThreadMXBean();

    public static void main(String[] args) {
        useAll(new SpeltRoutes());
        long before = made();
        SpeltRoutes r = new SpeltRoutes();
        long object = made() - before;
        System.out.println("an object takes " + object + " bytes");
        Due.holds("an object takes 200 000 bytes at most", object <= 200000);
        before = made();
        long sum = 0;
        for (int i = 0; i < 20; i++) {
            sum += useAll(r);
        }
        long calls = made() - before;
        System.out.println("its calls take " + calls + " bytes, " + sum);
        Due.holds("calls make nothing", calls < 2000);
        Due.end();
    }

    private static long made() {
        return BEAN.getThreadAllocatedBytes(Thread.currentThread().getId());
    }

    private static void type(SpeltRoutes r, String text) {
        r.clear();
        for (int i = 0; i < text.length(); i++) {
            r.type(text.charAt(i));
        }
    }

    private static long useAll(SpeltRoutes r) {
        type(r, "(.|-)*a(a|b)c?(.|-)(a|b).(a|b)..(b|A)|AB-c?");
        long sum = r.reads(0);
        type(r, "(.|A)*a.?.(a|b).(.|-)(.|-)(.|-)b(b|A)|B*.?bb.-");
        sum += r.reads(1);
        type(r, "a||");
        sum += r.reads(2);
        sum += r.draw(7, 30) + r.stand(1) + r.drop(3) + r.edge(0, 0, 0) + r.edge(40, 0, 0) + r.of(0, 0);
        sum += r.degree(0, 0) + r.about(0, 4) + r.about(1, 4) + r.accepts(0, 9, 1234567) + r.words(1, 9);
        sum += r.beyond(0, 1) + r.beyond(1, 0) + r.answers(1, 0, 1) + r.ends(1, 0) + r.pairs(1) + r.far(1, 0, 1);
        sum += r.count(1, 0, 1, 12) + r.route(1, 0, 1, 3, 0) + r.bridge(1, 0, 1) + r.standing(1) + r.kept(0, 0);
        return sum + r.told(5) + r.digest() + r.anew();
    }
}
