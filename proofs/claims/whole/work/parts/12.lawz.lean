theorem all_cut {α : Type} {p : α → Bool} (n : Nat) {l : List α} (h1 : (l.take n).all p = true) (h2 : (l.drop n).all p = true) : l.all p = true := by
  rw [← List.take_append_drop n l, List.all_append, h1, h2]; rfl
theorem okL_law : mOk mL_law = true := by
  show tbL_law.all (fun q => enOk mL_law q.1 q.2) = true
  refine all_cut 48 (l := tbL_law) okLaw0 ?_
  refine all_cut 48 okLaw1 ?_
  rw [List.drop_drop]
  refine all_cut 48 okLaw2 ?_
  rw [List.drop_drop]
  refine all_cut 48 okLaw3 ?_
  rw [List.drop_drop]
  refine all_cut 48 okLaw4 ?_
  rw [List.drop_drop]
  refine all_cut 48 okLaw5 ?_
  rw [List.drop_drop]
  refine all_cut 48 okLaw6 ?_
  rw [List.drop_drop]
  refine all_cut 48 okLaw7 ?_
  rw [List.drop_drop]
  refine all_cut 48 okLaw8 ?_
  rw [List.drop_drop]
  refine all_cut 48 okLaw9 ?_
  rw [List.drop_drop]
  refine all_cut 48 okLaw10 ?_
  rw [List.drop_drop]
  refine all_cut 48 okLaw11 ?_
  rw [List.drop_drop]
  refine all_cut 48 okLaw12 ?_
  rw [List.drop_drop]
  refine all_cut 48 okLaw13 ?_
  rw [List.drop_drop, List.drop_of_length_le (by decide +kernel)]
  rfl
