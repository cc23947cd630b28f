/-! THE REFERENCE AS NUMBERS AND ROWS: I k its number k, A k its row k -/
def md_fs (I : Nat → Int32) : List Value := [.int (I 0), .ref 89, .int (I 2), .ref 90, .ref 91, .ref 92, .int (I 6), .ref 93, .ref 94, .ref 95, .ref 96, .ref 97, .ref 98, .ref 99, .int (I 14), .ref 100, .int (I 16), .int (I 17), .int (I 18), .int (I 19), .ref 101, .ref 102, .int (I 22), .ref 103, .int (I 24), .int (I 25), .ref 104, .ref 105, .ref 106, .int (I 29), .int (I 30), .ref 107, .ref 108, .ref 109, .ref 110, .int (I 35), .ref 111, .ref 112, .ref 113, .int (I 39), .ref 114, .ref 115]
def md_as (A : Nat → Nat → Int32) : List am_C := [.inl (0, 96, A 1), .inl (0, 200, A 3), .inl (0, 4800, A 4), .inl (1, 200, A 5), .inl (0, 30, A 7), .inl (0, 240, A 8), .inl (0, 30, A 9), .inl (0, 30, A 10), .inl (0, 720, A 11), .inl (0, 720, A 12), .inl (0, 25, A 13), .inl (0, 9, A 15), .inl (0, 25, A 20), .inl (0, 24, A 21), .inl (0, 24, A 23), .inl (0, 24, A 26), .inl (0, 576, A 27), .inl (0, 400, A 28), .inl (0, 25, A 31), .inl (0, 24, A 32), .inl (0, 24, A 33), .inl (0, 16, A 34), .inl (0, 10809, A 36), .inl (0, 40, A 37), .inl (0, 40, A 38), .inl (0, 12, A 40), .inl (0, 81, A 41)]
def md (X : Fin 87 → am_C) (I : Nat → Int32) (A : Nat → Nat → Int32) (Y : am_H) : am_H := List.ofFn X ++ ((.inr (.inr (9, md_fs I)) : am_C) :: md_as A) ++ Y
def upA (A : Nat → Nat → Int32) (k j : Nat) (x : Int32) : Nat → Nat → Int32 := fun q => if q = k then upd (A k) j x else A q
section MD
variable {X : Fin 87 → am_C} {I : Nat → Int32} {A : Nat → Nat → Int32} {Y : am_H}
theorem md_at {j : Nat} (hj : j < 28) : am_at (md X I A Y) (88 + j) = ((.inr (.inr (9, md_fs I)) : am_C) :: md_as A)[j]? := by
  rw [show 88 + j = (87 + j) + 1 by omega]
  show (md X I A Y)[87 + j]? = _
  unfold md
  rw [List.getElem?_append_left (by simp [md_as]; omega), List.getElem?_append_right (by simp), List.length_ofFn, Nat.add_sub_cancel_left]
theorem md_set {j : Nat} (hj : j < 28) (c : am_C) : (md X I A Y).set (87 + j) c = List.ofFn X ++ (((.inr (.inr (9, md_fs I)) : am_C) :: md_as A).set j c) ++ Y := by
  unfold md
  rw [List.set_append_left _ _ (by simp [md_as]; omega), List.set_append_right _ _ (by simp), List.length_ofFn, Nat.add_sub_cancel_left]
theorem md_obj : am_obj 88 9 (md X I A Y) = some (md_fs I) := by
  unfold am_obj
  rw [show 88 = 88 + 0 from rfl, md_at (by decide)]
  rfl
theorem md_gi0 : am_gi 9 0 88 (md X I A Y) = some (I 0) := by
  unfold am_gi
  rw [md_obj]
  rfl
theorem md_pi0 (x : Int32) : am_pi 9 0 88 x (md X I A Y) = some (md X (upd I 0 x) A Y) := by
  unfold am_pi am_pv
  rw [md_obj]
  rfl
theorem md_gr1 : am_gr 9 1 88 (md X I A Y) = some 89 := by
  unfold am_gr
  rw [md_obj]
  rfl
theorem md_ia1 : am_ia 0 89 (md X I A Y) = some (96, A 1) := by
  unfold am_ia
  rw [show 89 = 88 + 1 from rfl, md_at (by decide)]
  rfl
theorem md_il1 (i : Int32) : am_il 0 89 i (md X I A Y) = (am_ix i 96).bind fun j => some (A 1 j) := by
  unfold am_il
  rw [md_ia1]
  rfl
theorem md_is1 (i x : Int32) : am_is 0 89 i x (md X I A Y) = (am_ix i 96).bind fun j => some (md X I (upA A 1 j x) Y) := by
  unfold am_is
  rw [md_ia1]
  show (am_ix i 96).bind _ = _
  congr 1
theorem md_gi2 : am_gi 9 2 88 (md X I A Y) = some (I 2) := by
  unfold am_gi
  rw [md_obj]
  rfl
theorem md_pi2 (x : Int32) : am_pi 9 2 88 x (md X I A Y) = some (md X (upd I 2 x) A Y) := by
  unfold am_pi am_pv
  rw [md_obj]
  rfl
theorem md_gr3 : am_gr 9 3 88 (md X I A Y) = some 90 := by
  unfold am_gr
  rw [md_obj]
  rfl
theorem md_ia3 : am_ia 0 90 (md X I A Y) = some (200, A 3) := by
  unfold am_ia
  rw [show 90 = 88 + 2 from rfl, md_at (by decide)]
  rfl
theorem md_il3 (i : Int32) : am_il 0 90 i (md X I A Y) = (am_ix i 200).bind fun j => some (A 3 j) := by
  unfold am_il
  rw [md_ia3]
  rfl
theorem md_is3 (i x : Int32) : am_is 0 90 i x (md X I A Y) = (am_ix i 200).bind fun j => some (md X I (upA A 3 j x) Y) := by
  unfold am_is
  rw [md_ia3]
  show (am_ix i 200).bind _ = _
  congr 1
theorem md_gr4 : am_gr 9 4 88 (md X I A Y) = some 91 := by
  unfold am_gr
  rw [md_obj]
  rfl
theorem md_ia4 : am_ia 0 91 (md X I A Y) = some (4800, A 4) := by
  unfold am_ia
  rw [show 91 = 88 + 3 from rfl, md_at (by decide)]
  rfl
theorem md_il4 (i : Int32) : am_il 0 91 i (md X I A Y) = (am_ix i 4800).bind fun j => some (A 4 j) := by
  unfold am_il
  rw [md_ia4]
  rfl
theorem md_is4 (i x : Int32) : am_is 0 91 i x (md X I A Y) = (am_ix i 4800).bind fun j => some (md X I (upA A 4 j x) Y) := by
  unfold am_is
  rw [md_ia4]
  show (am_ix i 4800).bind _ = _
  congr 1
theorem md_gr5 : am_gr 9 5 88 (md X I A Y) = some 92 := by
  unfold am_gr
  rw [md_obj]
  rfl
theorem md_ia5 : am_ia 1 92 (md X I A Y) = some (200, A 5) := by
  unfold am_ia
  rw [show 92 = 88 + 4 from rfl, md_at (by decide)]
  rfl
theorem md_il5 (i : Int32) : am_il 1 92 i (md X I A Y) = (am_ix i 200).bind fun j => some (A 5 j) := by
  unfold am_il
  rw [md_ia5]
  rfl
theorem md_is5 (i x : Int32) : am_is 1 92 i x (md X I A Y) = (am_ix i 200).bind fun j => some (md X I (upA A 5 j x) Y) := by
  unfold am_is
  rw [md_ia5]
  show (am_ix i 200).bind _ = _
  congr 1
theorem md_zs5 (i x : Int32) : am_zs 1 92 i x (md X I A Y) = (am_z x).bind fun x => (am_ix i 200).bind fun j => some (md X I (upA A 5 j x) Y) := by
  unfold am_zs
  congr 1
theorem md_gi6 : am_gi 9 6 88 (md X I A Y) = some (I 6) := by
  unfold am_gi
  rw [md_obj]
  rfl
theorem md_pi6 (x : Int32) : am_pi 9 6 88 x (md X I A Y) = some (md X (upd I 6 x) A Y) := by
  unfold am_pi am_pv
  rw [md_obj]
  rfl
theorem md_gr7 : am_gr 9 7 88 (md X I A Y) = some 93 := by
  unfold am_gr
  rw [md_obj]
  rfl
theorem md_ia7 : am_ia 0 93 (md X I A Y) = some (30, A 7) := by
  unfold am_ia
  rw [show 93 = 88 + 5 from rfl, md_at (by decide)]
  rfl
theorem md_il7 (i : Int32) : am_il 0 93 i (md X I A Y) = (am_ix i 30).bind fun j => some (A 7 j) := by
  unfold am_il
  rw [md_ia7]
  rfl
theorem md_is7 (i x : Int32) : am_is 0 93 i x (md X I A Y) = (am_ix i 30).bind fun j => some (md X I (upA A 7 j x) Y) := by
  unfold am_is
  rw [md_ia7]
  show (am_ix i 30).bind _ = _
  congr 1
theorem md_gr8 : am_gr 9 8 88 (md X I A Y) = some 94 := by
  unfold am_gr
  rw [md_obj]
  rfl
theorem md_ia8 : am_ia 0 94 (md X I A Y) = some (240, A 8) := by
  unfold am_ia
  rw [show 94 = 88 + 6 from rfl, md_at (by decide)]
  rfl
theorem md_il8 (i : Int32) : am_il 0 94 i (md X I A Y) = (am_ix i 240).bind fun j => some (A 8 j) := by
  unfold am_il
  rw [md_ia8]
  rfl
theorem md_is8 (i x : Int32) : am_is 0 94 i x (md X I A Y) = (am_ix i 240).bind fun j => some (md X I (upA A 8 j x) Y) := by
  unfold am_is
  rw [md_ia8]
  show (am_ix i 240).bind _ = _
  congr 1
theorem md_gr9 : am_gr 9 9 88 (md X I A Y) = some 95 := by
  unfold am_gr
  rw [md_obj]
  rfl
theorem md_ia9 : am_ia 0 95 (md X I A Y) = some (30, A 9) := by
  unfold am_ia
  rw [show 95 = 88 + 7 from rfl, md_at (by decide)]
  rfl
theorem md_il9 (i : Int32) : am_il 0 95 i (md X I A Y) = (am_ix i 30).bind fun j => some (A 9 j) := by
  unfold am_il
  rw [md_ia9]
  rfl
theorem md_is9 (i x : Int32) : am_is 0 95 i x (md X I A Y) = (am_ix i 30).bind fun j => some (md X I (upA A 9 j x) Y) := by
  unfold am_is
  rw [md_ia9]
  show (am_ix i 30).bind _ = _
  congr 1
theorem md_gr10 : am_gr 9 10 88 (md X I A Y) = some 96 := by
  unfold am_gr
  rw [md_obj]
  rfl
theorem md_ia10 : am_ia 0 96 (md X I A Y) = some (30, A 10) := by
  unfold am_ia
  rw [show 96 = 88 + 8 from rfl, md_at (by decide)]
  rfl
theorem md_il10 (i : Int32) : am_il 0 96 i (md X I A Y) = (am_ix i 30).bind fun j => some (A 10 j) := by
  unfold am_il
  rw [md_ia10]
  rfl
theorem md_is10 (i x : Int32) : am_is 0 96 i x (md X I A Y) = (am_ix i 30).bind fun j => some (md X I (upA A 10 j x) Y) := by
  unfold am_is
  rw [md_ia10]
  show (am_ix i 30).bind _ = _
  congr 1
theorem md_gr11 : am_gr 9 11 88 (md X I A Y) = some 97 := by
  unfold am_gr
  rw [md_obj]
  rfl
theorem md_ia11 : am_ia 0 97 (md X I A Y) = some (720, A 11) := by
  unfold am_ia
  rw [show 97 = 88 + 9 from rfl, md_at (by decide)]
  rfl
theorem md_il11 (i : Int32) : am_il 0 97 i (md X I A Y) = (am_ix i 720).bind fun j => some (A 11 j) := by
  unfold am_il
  rw [md_ia11]
  rfl
theorem md_is11 (i x : Int32) : am_is 0 97 i x (md X I A Y) = (am_ix i 720).bind fun j => some (md X I (upA A 11 j x) Y) := by
  unfold am_is
  rw [md_ia11]
  show (am_ix i 720).bind _ = _
  congr 1
theorem md_gr12 : am_gr 9 12 88 (md X I A Y) = some 98 := by
  unfold am_gr
  rw [md_obj]
  rfl
theorem md_ia12 : am_ia 0 98 (md X I A Y) = some (720, A 12) := by
  unfold am_ia
  rw [show 98 = 88 + 10 from rfl, md_at (by decide)]
  rfl
theorem md_il12 (i : Int32) : am_il 0 98 i (md X I A Y) = (am_ix i 720).bind fun j => some (A 12 j) := by
  unfold am_il
  rw [md_ia12]
  rfl
theorem md_is12 (i x : Int32) : am_is 0 98 i x (md X I A Y) = (am_ix i 720).bind fun j => some (md X I (upA A 12 j x) Y) := by
  unfold am_is
  rw [md_ia12]
  show (am_ix i 720).bind _ = _
  congr 1
theorem md_gr13 : am_gr 9 13 88 (md X I A Y) = some 99 := by
  unfold am_gr
  rw [md_obj]
  rfl
theorem md_ia13 : am_ia 0 99 (md X I A Y) = some (25, A 13) := by
  unfold am_ia
  rw [show 99 = 88 + 11 from rfl, md_at (by decide)]
  rfl
theorem md_il13 (i : Int32) : am_il 0 99 i (md X I A Y) = (am_ix i 25).bind fun j => some (A 13 j) := by
  unfold am_il
  rw [md_ia13]
  rfl
theorem md_is13 (i x : Int32) : am_is 0 99 i x (md X I A Y) = (am_ix i 25).bind fun j => some (md X I (upA A 13 j x) Y) := by
  unfold am_is
  rw [md_ia13]
  show (am_ix i 25).bind _ = _
  congr 1
theorem md_gi14 : am_gi 9 14 88 (md X I A Y) = some (I 14) := by
  unfold am_gi
  rw [md_obj]
  rfl
theorem md_pi14 (x : Int32) : am_pi 9 14 88 x (md X I A Y) = some (md X (upd I 14 x) A Y) := by
  unfold am_pi am_pv
  rw [md_obj]
  rfl
theorem md_gr15 : am_gr 9 15 88 (md X I A Y) = some 100 := by
  unfold am_gr
  rw [md_obj]
  rfl
theorem md_ia15 : am_ia 0 100 (md X I A Y) = some (9, A 15) := by
  unfold am_ia
  rw [show 100 = 88 + 12 from rfl, md_at (by decide)]
  rfl
theorem md_il15 (i : Int32) : am_il 0 100 i (md X I A Y) = (am_ix i 9).bind fun j => some (A 15 j) := by
  unfold am_il
  rw [md_ia15]
  rfl
theorem md_is15 (i x : Int32) : am_is 0 100 i x (md X I A Y) = (am_ix i 9).bind fun j => some (md X I (upA A 15 j x) Y) := by
  unfold am_is
  rw [md_ia15]
  show (am_ix i 9).bind _ = _
  congr 1
theorem md_gi16 : am_gi 9 16 88 (md X I A Y) = some (I 16) := by
  unfold am_gi
  rw [md_obj]
  rfl
theorem md_pi16 (x : Int32) : am_pi 9 16 88 x (md X I A Y) = some (md X (upd I 16 x) A Y) := by
  unfold am_pi am_pv
  rw [md_obj]
  rfl
theorem md_gi17 : am_gi 9 17 88 (md X I A Y) = some (I 17) := by
  unfold am_gi
  rw [md_obj]
  rfl
theorem md_pi17 (x : Int32) : am_pi 9 17 88 x (md X I A Y) = some (md X (upd I 17 x) A Y) := by
  unfold am_pi am_pv
  rw [md_obj]
  rfl
theorem md_gi18 : am_gi 9 18 88 (md X I A Y) = some (I 18) := by
  unfold am_gi
  rw [md_obj]
  rfl
theorem md_pi18 (x : Int32) : am_pi 9 18 88 x (md X I A Y) = some (md X (upd I 18 x) A Y) := by
  unfold am_pi am_pv
  rw [md_obj]
  rfl
theorem md_gi19 : am_gi 9 19 88 (md X I A Y) = some (I 19) := by
  unfold am_gi
  rw [md_obj]
  rfl
theorem md_pi19 (x : Int32) : am_pi 9 19 88 x (md X I A Y) = some (md X (upd I 19 x) A Y) := by
  unfold am_pi am_pv
  rw [md_obj]
  rfl
theorem md_gr20 : am_gr 9 20 88 (md X I A Y) = some 101 := by
  unfold am_gr
  rw [md_obj]
  rfl
theorem md_ia20 : am_ia 0 101 (md X I A Y) = some (25, A 20) := by
  unfold am_ia
  rw [show 101 = 88 + 13 from rfl, md_at (by decide)]
  rfl
theorem md_il20 (i : Int32) : am_il 0 101 i (md X I A Y) = (am_ix i 25).bind fun j => some (A 20 j) := by
  unfold am_il
  rw [md_ia20]
  rfl
theorem md_is20 (i x : Int32) : am_is 0 101 i x (md X I A Y) = (am_ix i 25).bind fun j => some (md X I (upA A 20 j x) Y) := by
  unfold am_is
  rw [md_ia20]
  show (am_ix i 25).bind _ = _
  congr 1
theorem md_gr21 : am_gr 9 21 88 (md X I A Y) = some 102 := by
  unfold am_gr
  rw [md_obj]
  rfl
theorem md_ia21 : am_ia 0 102 (md X I A Y) = some (24, A 21) := by
  unfold am_ia
  rw [show 102 = 88 + 14 from rfl, md_at (by decide)]
  rfl
theorem md_il21 (i : Int32) : am_il 0 102 i (md X I A Y) = (am_ix i 24).bind fun j => some (A 21 j) := by
  unfold am_il
  rw [md_ia21]
  rfl
theorem md_is21 (i x : Int32) : am_is 0 102 i x (md X I A Y) = (am_ix i 24).bind fun j => some (md X I (upA A 21 j x) Y) := by
  unfold am_is
  rw [md_ia21]
  show (am_ix i 24).bind _ = _
  congr 1
theorem md_gi22 : am_gi 9 22 88 (md X I A Y) = some (I 22) := by
  unfold am_gi
  rw [md_obj]
  rfl
theorem md_pi22 (x : Int32) : am_pi 9 22 88 x (md X I A Y) = some (md X (upd I 22 x) A Y) := by
  unfold am_pi am_pv
  rw [md_obj]
  rfl
theorem md_gr23 : am_gr 9 23 88 (md X I A Y) = some 103 := by
  unfold am_gr
  rw [md_obj]
  rfl
theorem md_ia23 : am_ia 0 103 (md X I A Y) = some (24, A 23) := by
  unfold am_ia
  rw [show 103 = 88 + 15 from rfl, md_at (by decide)]
  rfl
theorem md_il23 (i : Int32) : am_il 0 103 i (md X I A Y) = (am_ix i 24).bind fun j => some (A 23 j) := by
  unfold am_il
  rw [md_ia23]
  rfl
theorem md_is23 (i x : Int32) : am_is 0 103 i x (md X I A Y) = (am_ix i 24).bind fun j => some (md X I (upA A 23 j x) Y) := by
  unfold am_is
  rw [md_ia23]
  show (am_ix i 24).bind _ = _
  congr 1
theorem md_gi24 : am_gi 9 24 88 (md X I A Y) = some (I 24) := by
  unfold am_gi
  rw [md_obj]
  rfl
theorem md_pi24 (x : Int32) : am_pi 9 24 88 x (md X I A Y) = some (md X (upd I 24 x) A Y) := by
  unfold am_pi am_pv
  rw [md_obj]
  rfl
theorem md_gi25 : am_gi 9 25 88 (md X I A Y) = some (I 25) := by
  unfold am_gi
  rw [md_obj]
  rfl
theorem md_pi25 (x : Int32) : am_pi 9 25 88 x (md X I A Y) = some (md X (upd I 25 x) A Y) := by
  unfold am_pi am_pv
  rw [md_obj]
  rfl
theorem md_gr26 : am_gr 9 26 88 (md X I A Y) = some 104 := by
  unfold am_gr
  rw [md_obj]
  rfl
theorem md_ia26 : am_ia 0 104 (md X I A Y) = some (24, A 26) := by
  unfold am_ia
  rw [show 104 = 88 + 16 from rfl, md_at (by decide)]
  rfl
theorem md_il26 (i : Int32) : am_il 0 104 i (md X I A Y) = (am_ix i 24).bind fun j => some (A 26 j) := by
  unfold am_il
  rw [md_ia26]
  rfl
theorem md_is26 (i x : Int32) : am_is 0 104 i x (md X I A Y) = (am_ix i 24).bind fun j => some (md X I (upA A 26 j x) Y) := by
  unfold am_is
  rw [md_ia26]
  show (am_ix i 24).bind _ = _
  congr 1
theorem md_gr27 : am_gr 9 27 88 (md X I A Y) = some 105 := by
  unfold am_gr
  rw [md_obj]
  rfl
theorem md_ia27 : am_ia 0 105 (md X I A Y) = some (576, A 27) := by
  unfold am_ia
  rw [show 105 = 88 + 17 from rfl, md_at (by decide)]
  rfl
theorem md_il27 (i : Int32) : am_il 0 105 i (md X I A Y) = (am_ix i 576).bind fun j => some (A 27 j) := by
  unfold am_il
  rw [md_ia27]
  rfl
theorem md_is27 (i x : Int32) : am_is 0 105 i x (md X I A Y) = (am_ix i 576).bind fun j => some (md X I (upA A 27 j x) Y) := by
  unfold am_is
  rw [md_ia27]
  show (am_ix i 576).bind _ = _
  congr 1
theorem md_gr28 : am_gr 9 28 88 (md X I A Y) = some 106 := by
  unfold am_gr
  rw [md_obj]
  rfl
theorem md_ia28 : am_ia 0 106 (md X I A Y) = some (400, A 28) := by
  unfold am_ia
  rw [show 106 = 88 + 18 from rfl, md_at (by decide)]
  rfl
theorem md_il28 (i : Int32) : am_il 0 106 i (md X I A Y) = (am_ix i 400).bind fun j => some (A 28 j) := by
  unfold am_il
  rw [md_ia28]
  rfl
theorem md_is28 (i x : Int32) : am_is 0 106 i x (md X I A Y) = (am_ix i 400).bind fun j => some (md X I (upA A 28 j x) Y) := by
  unfold am_is
  rw [md_ia28]
  show (am_ix i 400).bind _ = _
  congr 1
theorem md_gi29 : am_gi 9 29 88 (md X I A Y) = some (I 29) := by
  unfold am_gi
  rw [md_obj]
  rfl
theorem md_pi29 (x : Int32) : am_pi 9 29 88 x (md X I A Y) = some (md X (upd I 29 x) A Y) := by
  unfold am_pi am_pv
  rw [md_obj]
  rfl
theorem md_gi30 : am_gi 9 30 88 (md X I A Y) = some (I 30) := by
  unfold am_gi
  rw [md_obj]
  rfl
theorem md_pi30 (x : Int32) : am_pi 9 30 88 x (md X I A Y) = some (md X (upd I 30 x) A Y) := by
  unfold am_pi am_pv
  rw [md_obj]
  rfl
theorem md_gr31 : am_gr 9 31 88 (md X I A Y) = some 107 := by
  unfold am_gr
  rw [md_obj]
  rfl
theorem md_ia31 : am_ia 0 107 (md X I A Y) = some (25, A 31) := by
  unfold am_ia
  rw [show 107 = 88 + 19 from rfl, md_at (by decide)]
  rfl
theorem md_il31 (i : Int32) : am_il 0 107 i (md X I A Y) = (am_ix i 25).bind fun j => some (A 31 j) := by
  unfold am_il
  rw [md_ia31]
  rfl
theorem md_is31 (i x : Int32) : am_is 0 107 i x (md X I A Y) = (am_ix i 25).bind fun j => some (md X I (upA A 31 j x) Y) := by
  unfold am_is
  rw [md_ia31]
  show (am_ix i 25).bind _ = _
  congr 1
theorem md_gr32 : am_gr 9 32 88 (md X I A Y) = some 108 := by
  unfold am_gr
  rw [md_obj]
  rfl
theorem md_ia32 : am_ia 0 108 (md X I A Y) = some (24, A 32) := by
  unfold am_ia
  rw [show 108 = 88 + 20 from rfl, md_at (by decide)]
  rfl
theorem md_il32 (i : Int32) : am_il 0 108 i (md X I A Y) = (am_ix i 24).bind fun j => some (A 32 j) := by
  unfold am_il
  rw [md_ia32]
  rfl
theorem md_is32 (i x : Int32) : am_is 0 108 i x (md X I A Y) = (am_ix i 24).bind fun j => some (md X I (upA A 32 j x) Y) := by
  unfold am_is
  rw [md_ia32]
  show (am_ix i 24).bind _ = _
  congr 1
theorem md_gr33 : am_gr 9 33 88 (md X I A Y) = some 109 := by
  unfold am_gr
  rw [md_obj]
  rfl
theorem md_ia33 : am_ia 0 109 (md X I A Y) = some (24, A 33) := by
  unfold am_ia
  rw [show 109 = 88 + 21 from rfl, md_at (by decide)]
  rfl
theorem md_il33 (i : Int32) : am_il 0 109 i (md X I A Y) = (am_ix i 24).bind fun j => some (A 33 j) := by
  unfold am_il
  rw [md_ia33]
  rfl
theorem md_is33 (i x : Int32) : am_is 0 109 i x (md X I A Y) = (am_ix i 24).bind fun j => some (md X I (upA A 33 j x) Y) := by
  unfold am_is
  rw [md_ia33]
  show (am_ix i 24).bind _ = _
  congr 1
theorem md_gr34 : am_gr 9 34 88 (md X I A Y) = some 110 := by
  unfold am_gr
  rw [md_obj]
  rfl
theorem md_ia34 : am_ia 0 110 (md X I A Y) = some (16, A 34) := by
  unfold am_ia
  rw [show 110 = 88 + 22 from rfl, md_at (by decide)]
  rfl
theorem md_il34 (i : Int32) : am_il 0 110 i (md X I A Y) = (am_ix i 16).bind fun j => some (A 34 j) := by
  unfold am_il
  rw [md_ia34]
  rfl
theorem md_is34 (i x : Int32) : am_is 0 110 i x (md X I A Y) = (am_ix i 16).bind fun j => some (md X I (upA A 34 j x) Y) := by
  unfold am_is
  rw [md_ia34]
  show (am_ix i 16).bind _ = _
  congr 1
theorem md_gi35 : am_gi 9 35 88 (md X I A Y) = some (I 35) := by
  unfold am_gi
  rw [md_obj]
  rfl
theorem md_pi35 (x : Int32) : am_pi 9 35 88 x (md X I A Y) = some (md X (upd I 35 x) A Y) := by
  unfold am_pi am_pv
  rw [md_obj]
  rfl
theorem md_gr36 : am_gr 9 36 88 (md X I A Y) = some 111 := by
  unfold am_gr
  rw [md_obj]
  rfl
theorem md_ia36 : am_ia 0 111 (md X I A Y) = some (10809, A 36) := by
  unfold am_ia
  rw [show 111 = 88 + 23 from rfl, md_at (by decide)]
  rfl
theorem md_il36 (i : Int32) : am_il 0 111 i (md X I A Y) = (am_ix i 10809).bind fun j => some (A 36 j) := by
  unfold am_il
  rw [md_ia36]
  rfl
theorem md_is36 (i x : Int32) : am_is 0 111 i x (md X I A Y) = (am_ix i 10809).bind fun j => some (md X I (upA A 36 j x) Y) := by
  unfold am_is
  rw [md_ia36]
  show (am_ix i 10809).bind _ = _
  congr 1
theorem md_gr37 : am_gr 9 37 88 (md X I A Y) = some 112 := by
  unfold am_gr
  rw [md_obj]
  rfl
theorem md_ia37 : am_ia 0 112 (md X I A Y) = some (40, A 37) := by
  unfold am_ia
  rw [show 112 = 88 + 24 from rfl, md_at (by decide)]
  rfl
theorem md_il37 (i : Int32) : am_il 0 112 i (md X I A Y) = (am_ix i 40).bind fun j => some (A 37 j) := by
  unfold am_il
  rw [md_ia37]
  rfl
theorem md_is37 (i x : Int32) : am_is 0 112 i x (md X I A Y) = (am_ix i 40).bind fun j => some (md X I (upA A 37 j x) Y) := by
  unfold am_is
  rw [md_ia37]
  show (am_ix i 40).bind _ = _
  congr 1
theorem md_gr38 : am_gr 9 38 88 (md X I A Y) = some 113 := by
  unfold am_gr
  rw [md_obj]
  rfl
theorem md_ia38 : am_ia 0 113 (md X I A Y) = some (40, A 38) := by
  unfold am_ia
  rw [show 113 = 88 + 25 from rfl, md_at (by decide)]
  rfl
theorem md_il38 (i : Int32) : am_il 0 113 i (md X I A Y) = (am_ix i 40).bind fun j => some (A 38 j) := by
  unfold am_il
  rw [md_ia38]
  rfl
theorem md_is38 (i x : Int32) : am_is 0 113 i x (md X I A Y) = (am_ix i 40).bind fun j => some (md X I (upA A 38 j x) Y) := by
  unfold am_is
  rw [md_ia38]
  show (am_ix i 40).bind _ = _
  congr 1
theorem md_gi39 : am_gi 9 39 88 (md X I A Y) = some (I 39) := by
  unfold am_gi
  rw [md_obj]
  rfl
theorem md_pi39 (x : Int32) : am_pi 9 39 88 x (md X I A Y) = some (md X (upd I 39 x) A Y) := by
  unfold am_pi am_pv
  rw [md_obj]
  rfl
theorem md_gr40 : am_gr 9 40 88 (md X I A Y) = some 114 := by
  unfold am_gr
  rw [md_obj]
  rfl
theorem md_ia40 : am_ia 0 114 (md X I A Y) = some (12, A 40) := by
  unfold am_ia
  rw [show 114 = 88 + 26 from rfl, md_at (by decide)]
  rfl
theorem md_il40 (i : Int32) : am_il 0 114 i (md X I A Y) = (am_ix i 12).bind fun j => some (A 40 j) := by
  unfold am_il
  rw [md_ia40]
  rfl
theorem md_is40 (i x : Int32) : am_is 0 114 i x (md X I A Y) = (am_ix i 12).bind fun j => some (md X I (upA A 40 j x) Y) := by
  unfold am_is
  rw [md_ia40]
  show (am_ix i 12).bind _ = _
  congr 1
theorem md_gr41 : am_gr 9 41 88 (md X I A Y) = some 115 := by
  unfold am_gr
  rw [md_obj]
  rfl
theorem md_ia41 : am_ia 0 115 (md X I A Y) = some (81, A 41) := by
  unfold am_ia
  rw [show 115 = 88 + 27 from rfl, md_at (by decide)]
  rfl
theorem md_il41 (i : Int32) : am_il 0 115 i (md X I A Y) = (am_ix i 81).bind fun j => some (A 41 j) := by
  unfold am_il
  rw [md_ia41]
  rfl
theorem md_is41 (i x : Int32) : am_is 0 115 i x (md X I A Y) = (am_ix i 81).bind fun j => some (md X I (upA A 41 j x) Y) := by
  unfold am_is
  rw [md_ia41]
  show (am_ix i 81).bind _ = _
  congr 1
end MD
