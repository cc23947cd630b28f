/-! THE CLASS HOLDS THE STATE. The q-th block or version (as they were made) lies at rD q .. rD q + 6. Z: what the squeezings of a block come to (size, time) by kinds -/
def rD (q : Nat) : Nat := 116 + 7 * q
abbrev sZ : Type := Nat → (Nat → Nat) → Nat → Nat × Nat
def BlkAt (Z : sZ) (h : am_H) (a n : Nat) (s : Nat → Nat) (t : Bool) : Prop := am_obj a 0 h = some [.ref (a + 5), .ref (a + 1), .ref (a + 3), .int (bI t)] ∧ (∃ f, RowAt h (a + 5) n n f ∧ (t = false → ∀ k, k < n → f k = nI (s k))) ∧ ∃ m f g, (RowAt h (a + 1) 5 m f ∧ RowAt h (a + 3) 5 m g) ∧ (m = 0 ∨ (m = 5 ∧ ∀ k, k < 5 → f k = nI (Z n s k).1 ∧ g k = nI (Z n s k).2))
def VerAt (h : am_H) (a n : Nat) (w : Nat → Nat) (p : Int32) (c l : Nat) (x y : Nat → Nat) : Prop := am_obj a 7 h = some [.ref (a + 5), .int p, .int (nI c), .int (nI l), .ref (a + 1), .ref (a + 3)] ∧ (∃ f, RowAt h (a + 5) n n f ∧ ∀ i, i < n → f i = nI (w i)) ∧ (∃ f, RowAt h (a + 1) 24 24 f ∧ ∀ k, k < 24 → f k = nI (x k)) ∧ (∃ f, RowAt h (a + 3) 24 24 f ∧ ∀ k, k < 24 → f k = nI (y k))
/-- rows of numbers in a row: N of them, M numbers each -/
def Rws (h : am_H) (a N M : Nat) (T : Nat → Nat → Int32) : Prop := ∃ g, am_ra 5 a h = some (N, g) ∧ ∀ i, i < N → g i = a + 1 + i ∧ am_ia 0 (a + 1 + i) h = some (M, T i)
theorem Rws.fr {P : Nat → Prop} {h h' : am_H} {a N M : Nat} {T : Nat → Nat → Int32} (r : Rws h a N M T) (F : Fr P h h') (hp : ∀ q, a ≤ q → q ≤ a + N → ¬ P q) : Rws h' a N M T := by
  obtain ⟨g, e, hg⟩ := r
  exact ⟨g, (ra_at (F.2.2 _ (hp a (by omega) (by omega)))).trans e, fun i hi => ⟨(hg i hi).1, (ia_at (F.2.2 _ (hp (a + 1 + i) (by omega) (by omega)))).trans (hg i hi).2⟩⟩
theorem Rws.al {h : am_H} {a N M i : Nat} {T : Nat → Nat → Int32} (r : Rws h a N M T) (hi : i < N) (hN : N < 2 ^ 31) : am_al 5 a (nI i) h = some (a + 1 + i) := by
  obtain ⟨g, e, hg⟩ := r
  rw [al_ra e hi hN, (hg i hi).1]
theorem Rws.il {h : am_H} {a N M i j : Nat} {T : Nat → Nat → Int32} (r : Rws h a N M T) (hi : i < N) (hj : j < M) (hM : M < 2 ^ 31) : am_il 0 (a + 1 + i) (nI j) h = some (T i j) := by
  obtain ⟨g, e, hg⟩ := r
  rw [il_ia (hg i hi).2 hj hM]
/-- the rows that calls use again -/
def Scr (h : am_H) : Prop := (∃ n f, RowAt h 8 8 n f) ∧ (∃ n f, RowAt h 10 25 n f) ∧ (∃ n f, RowAt h 12 192 n f) ∧ (∃ T, Rws h 14 9 9 T ∧ (∀ j, j < 9 → T 0 j = 0) ∧ ∀ i, i < 9 → T i 0 = 0) ∧
  (am_obj 24 2 h = some [.ref 25, .ref 26, .ref 27, .ref 28] ∧ (∃ f, am_ia 0 25 h = some (25, f)) ∧ (∃ f, am_ia 0 26 h = some (25, f)) ∧ (∃ f, am_ia 0 27 h = some (10, f)) ∧ ∃ n f, RowAt h 28 24 n f) ∧
  ((∃ a b c, am_obj 30 5 h = some [.ref 31, .ref 33, .ref 34, .int a, .int b, .int c]) ∧ (∃ n f, RowAt h 31 24 n f) ∧ (∃ g, am_ra 4 33 h = some (12, g) ∧ ∀ k, k < 12 → g k = 36 + 2 * k ∧ ∃ n f, RowAt h (36 + 2 * k) 24 n f) ∧ ∃ n f, RowAt h 34 24 n f) ∧
  ((∃ a b c, am_obj 60 3 h = some [.ref 61, .ref 62, .int a, .int b, .int c]) ∧ (∃ f, am_ia 0 61 h = some (16, f)) ∧ ∃ n f, RowAt h 62 256 n f) ∧
  ((∃ a, am_obj 64 6 h = some [.ref 65, .ref 66, .ref 67, .ref 69, .int a]) ∧ (∃ f, am_ia 0 65 h = some (25, f)) ∧ (∃ f, am_ia 0 66 h = some (16, f)) ∧ (∃ n f, RowAt h 67 24 n f) ∧ ∃ n f, RowAt h 69 24 n f) ∧
  ((∃ a b, am_obj 71 1 h = some [.ref 72, .ref 74, .ref 76, .ref 86, .int a, .int b]) ∧ (∃ n f, RowAt h 72 40 n f) ∧ (∃ n f, RowAt h 74 40 n f) ∧ (∃ T, Rws h 76 9 1153 T) ∧ ∃ n f, RowAt h 86 8 n f)
def xfs (S : sS) (pn : Int32) : List Value := [.ref 2, .ref 4, .ref 6, .int (nI (nb S)), .ref 7, .int (nI (nv S)), .ref 8, .int pn, .ref 10, .ref 12, .ref 14, .ref 24, .ref 30, .ref 60, .ref 64, .ref 71]
def RX (Z : sZ) (S : sS) (pb pv : Nat → Nat) (h : am_H) : Prop := (∃ pn, am_obj 1 8 h = some (xfs S pn)) ∧ (∃ f, RowAt h 2 96 (nd S) f ∧ ∀ j, j < nd S → f j = nI (dr S j)) ∧ (∃ f, RowAt h 4 12 (np S) f ∧ ∀ j, j < np S → f j = nI (pt S j)) ∧
  (∃ f, am_ra 2 6 h = some (200, f) ∧ ∀ b, b < nb S → f b = rD (pb b)) ∧ (∃ f, am_ra 3 7 h = some (30, f) ∧ ∀ v, v < nv S → f v = rD (pv v)) ∧
  (∀ b, b < nb S → BlkAt Z h (rD (pb b)) (ln S b) (sg S b) (tn S b)) ∧ (∀ v, v < nv S → VerAt h (rD (pv v)) (rl S v) (rw_ S v) (pr S v) (fr S v) (plc S v) (s1 S v) (s2 S v)) ∧ Scr h ∧
  (((∀ b, b < nb S → pb b < nb S + nv S) ∧ (∀ v, v < nv S → pv v < nb S + nv S)) ∧ (∀ b c, b < nb S → c < nb S → pb b = pb c → b = c) ∧ (∀ v u, v < nv S → u < nv S → pv v = pv u → v = u) ∧ ∀ b v, b < nb S → v < nv S → pb b ≠ pv v) ∧ h.length = 115 + 7 * (nb S + nv S)
section CL
variable {Z : sZ} {S : sS} {pb pv : Nat → Nat} {h : am_H}
theorem RX.gi3 (C : RX Z S pb pv h) : am_gi 8 3 1 h = some (nI (nb S)) := by obtain ⟨pn, e⟩ := C.1; unfold am_gi; rw [e]; rfl
theorem RX.gi5 (C : RX Z S pb pv h) : am_gi 8 5 1 h = some (nI (nv S)) := by obtain ⟨pn, e⟩ := C.1; unfold am_gi; rw [e]; rfl
theorem RX.gr {k x : Nat} (C : RX Z S pb pv h) (hk : ∀ pn, (xfs S pn)[k]? = some (.ref x)) : am_gr 8 k 1 h = some x := by obtain ⟨pn, e⟩ := C.1; unfold am_gr; rw [e, Option.bind_some, hk pn]
theorem RX.ob (C : RX Z S pb pv h) {β : Type} (f : Option β) : ((am_obj 1 8 h).bind fun _ => f) = f := by obtain ⟨pn, e⟩ := C.1; rw [e]; rfl
theorem blockOf_t (w : WF S) (C : RX Z S pb pv h) {b : Nat} (hb : b < nb S) : F_X8_blockOf 1 (nI b) h = some (rD (pb b)) := by
  have hn := w.2.2.1.1
  obtain ⟨f, hf, hf2⟩ := C.2.2.2.1
  simp only [F_X8_blockOf, C.ob, F_X8_blockOf_b, F_X8_blockOf_31, C.gi3, C.gr (k := 2) (x := 6) (fun _ => rfl), Option.bind_some, ln_ra hf (by decide)]
  rw [if_neg (nI_pos (by omega)), if_neg (nI_ge hb (by omega)), if_neg (nI_ge (by omega) (by decide)), al_ra hf (by omega) (by decide), hf2 b hb]
  rfl
theorem blockOf_f (w : WF S) (C : RX Z S pb pv h) {b : Int32} (hb : ¬ vd (nb S) b) : F_X8_blockOf 1 b h = some 0 := by
  have hn := w.2.2.1.1
  simp only [F_X8_blockOf, C.ob, F_X8_blockOf_b, F_X8_blockOf_31, F_X8_blockOf_30, C.gi3, Option.bind_some]
  by_cases h2 : b < 0
  · rw [if_pos h2]
  · rw [if_neg h2]
    obtain ⟨j, hj, rfl⟩ := nI_of h2
    have : nb S ≤ j := by
      by_cases h3 : j < nb S
      · exact absurd (vd_nI h3 (by omega)) hb
      · omega
    rw [if_pos (nI_le this hj)]
theorem versionOf_t (w : WF S) (C : RX Z S pb pv h) {v : Nat} (hv : v < nv S) : F_X8_versionOf 1 (nI v) h = some (rD (pv v)) := by
  have hn := w.2.2.2.1
  obtain ⟨f, hf, hf2⟩ := C.2.2.2.2.1
  simp only [F_X8_versionOf, C.ob, F_X8_versionOf_b, F_X8_versionOf_31, C.gi5, C.gr (k := 4) (x := 7) (fun _ => rfl), Option.bind_some, ln_ra hf (by decide)]
  rw [if_neg (nI_pos (by omega)), if_neg (nI_ge hv (by omega)), if_neg (nI_ge (by omega) (by decide)), al_ra hf (by omega) (by decide), hf2 v hv]
  rfl
theorem versionOf_f (w : WF S) (C : RX Z S pb pv h) {v : Int32} (hv : ¬ vd (nv S) v) : F_X8_versionOf 1 v h = some 0 := by
  have hn := w.2.2.2.1
  simp only [F_X8_versionOf, C.ob, F_X8_versionOf_b, F_X8_versionOf_31, F_X8_versionOf_30, C.gi5, Option.bind_some]
  by_cases h2 : v < 0
  · rw [if_pos h2]
  · rw [if_neg h2]
    obtain ⟨j, hj, rfl⟩ := nI_of h2
    have : nv S ≤ j := by
      by_cases h3 : j < nv S
      · exact absurd (vd_nI h3 (by omega)) hv
      · omega
    rw [if_pos (nI_le this hj)]
theorem rD_ne (q : Nat) : ¬ rD q = 0 := by unfold rD; omega
/-! a version's and a block's fields -/
theorem VerAt.f {a n : Nat} {w : Nat → Nat} {p : Int32} {c l : Nat} {x y : Nat → Nat} (V : VerAt h a n w p c l x y) : am_gr 7 0 a h = some (a + 5) ∧ am_gi 7 1 a h = some p ∧ am_gi 7 2 a h = some (nI c) ∧ am_gi 7 3 a h = some (nI l) ∧ am_gr 7 4 a h = some (a + 1) ∧ am_gr 7 5 a h = some (a + 3) := by
  unfold am_gr am_gi
  rw [V.1]
  exact ⟨rfl, rfl, rfl, rfl, rfl, rfl⟩
theorem BlkAt.f {a n : Nat} {s : Nat → Nat} {t : Bool} (B : BlkAt Z h a n s t) : am_gr 0 0 a h = some (a + 5) ∧ am_gr 0 1 a h = some (a + 1) ∧ am_gr 0 2 a h = some (a + 3) ∧ am_gi 0 3 a h = some (bI t) := by
  unfold am_gr am_gi
  rw [B.1]
  exact ⟨rfl, rfl, rfl, rfl⟩
theorem lengthIn_t (w : WF S) (C : RX Z S pb pv h) {v i : Nat} (hv : v < nv S) (hi : i < rl S v) : F_X8_lengthIn 1 (rD (pv v)) (nI i) h = some (nI (ln S (rw_ S v i))) := by
  have V := C.2.2.2.2.2.2.1 v hv
  obtain ⟨f, hf, hf2⟩ := V.2.1
  have hb := (w.2.2.2.2 v hv).1.2 i hi
  have B := C.2.2.2.2.2.1 _ hb
  obtain ⟨g, hg, -⟩ := B.2.1
  simp only [F_X8_lengthIn, C.ob, F_X8_lengthIn_b, F_X8_lengthIn_28, V.f.1, Option.bind_some, row_at hf hi, hf2 i hi, blockOf_t w C hb, if_neg (rD_ne _), B.f.1, row_length hg]
theorem isTornIn_t (w : WF S) (C : RX Z S pb pv h) {v i : Nat} (hv : v < nv S) (hi : i < rl S v) : F_X8_isTornIn 1 (rD (pv v)) (nI i) h = some (bI (tn S (rw_ S v i))) := by
  have V := C.2.2.2.2.2.2.1 v hv
  obtain ⟨f, hf, hf2⟩ := V.2.1
  have hb := (w.2.2.2.2 v hv).1.2 i hi
  have B := C.2.2.2.2.2.1 _ hb
  simp only [F_X8_isTornIn, C.ob, F_X8_isTornIn_b, F_X8_isTornIn_29, F_X8_isTornIn_28, V.f.1, Option.bind_some, row_at hf hi, hf2 i hi, blockOf_t w C hb, if_neg (rD_ne _), B.f.2.2.2]
  cases tn S (rw_ S v i) <;> rfl
theorem signIn_t (w : WF S) (C : RX Z S pb pv h) {v i k : Nat} (hv : v < nv S) (hi : i < rl S v) (hk : k < ln S (rw_ S v i)) (ht : tn S (rw_ S v i) = false) : F_X8_signIn 1 (rD (pv v)) (nI i) (nI k) h = some (nI (sg S (rw_ S v i) k)) := by
  have V := C.2.2.2.2.2.2.1 v hv
  obtain ⟨f, hf, hf2⟩ := V.2.1
  have hb := (w.2.2.2.2 v hv).1.2 i hi
  have B := C.2.2.2.2.2.1 _ hb
  obtain ⟨g, hg, hg2⟩ := B.2.1
  have e := hg2 ht k hk
  simp only [F_X8_signIn, C.ob, F_X8_signIn_b, F_X8_signIn_32, V.f.1, Option.bind_some, row_at hf hi, hf2 i hi, blockOf_t w C hb, if_neg (rD_ne _), B.f.1, row_at hg hk, e]
theorem tornBlocks_loop (w : WF S) (C : RX Z S pb pv h) {v : Nat} (hv : v < nv S) : ∀ (n i : Nat), i ≤ rl S v → rl S v < i + n → F_X8_tornBlocks_4 n 1 (rD (pv v)) (nI (sumN (fun i => bN (tn S (rw_ S v i))) i)) (nI i) h = some (nI (trn S v))
  | 0, i, h1, h2 => by omega
  | n + 1, i, h1, h2 => by
    have V := C.2.2.2.2.2.2.1 v hv
    obtain ⟨f, hf, hf2⟩ := V.2.1
    have hw := (w.2.2.2.2 v hv).1
    rw [F_X8_tornBlocks_4]
    simp only [V.f.1, Option.bind_some, row_length hf]
    by_cases hc : rl S v ≤ i
    · have e : i = rl S v := by omega
      rw [if_pos (nI_le hc (by omega)), e]
      rfl
    · rw [if_neg (nI_ge (by omega) (by omega))]
      have hi : i < rl S v := by omega
      have ih := tornBlocks_loop w C hv n (i + 1) (by omega) (by omega)
      have ea : sumN (fun i => bN (tn S (rw_ S v i))) (i + 1) = sumN (fun i => bN (tn S (rw_ S v i))) i + bN (tn S (rw_ S v i)) := rfl
      rw [ea] at ih
      simp only [isTornIn_t w C hv hi, Option.bind_some, bI_0, F_X8_tornBlocks_27, nI_1]
      cases ht : tn S (rw_ S v i) with
      | true => rw [ht] at ih; exact ih
      | false => rw [ht] at ih; exact ih
theorem tornBlocks_t (w : WF S) (C : RX Z S pb pv h) {v : Nat} (hv : v < nv S) : F_X8_tornBlocks 1 (rD (pv v)) h = some (nI (trn S v)) := by
  have hw := (w.2.2.2.2 v hv).1
  simp only [F_X8_tornBlocks, C.ob, F_X8_tornBlocks_b]
  exact tornBlocks_loop w C hv am_F 0 (by omega) (by show _ < 0 + 100000; omega)
/-! about, block -/
theorem x_about (w : WF S) (C : RX Z S pb pv h) (v x : Int32) : F_X8_about 1 v x h = some (sp_about S v x) := by
  unfold sp_about
  by_cases hv : vd (nv S) v
  · rw [if_pos hv]
    obtain ⟨k, hk, rfl⟩ := nI_of_toInt hv.1 hv.2
    have hn := w.2.2.2.1
    have V := C.2.2.2.2.2.2.1 k hk
    obtain ⟨f, hf, hf2⟩ := V.2.1
    simp only [F_X8_about, C.ob, F_X8_about_b, versionOf_t w C hk, Option.bind_some, if_neg (rD_ne _), V.f, row_length hf, tornBlocks_t w C hk, cl_nI (show k < 2 ^ 31 by omega)]
    repeat' split
    all_goals rfl
  · rw [if_neg hv]
    simp only [F_X8_about, C.ob, F_X8_about_b, versionOf_f w C hv, Option.bind_some, if_true]
theorem x_block (w : WF S) (C : RX Z S pb pv h) (v i : Int32) : F_X8_block 1 v i h = some (sp_block S v i) := by
  unfold sp_block
  by_cases hv : vd (nv S) v
  · rw [if_pos hv]
    obtain ⟨k, hk, rfl⟩ := nI_of_toInt hv.1 hv.2
    have hn := w.2.2.2.1
    have V := C.2.2.2.2.2.2.1 k hk
    obtain ⟨f, hf, hf2⟩ := V.2.1
    have hw := (w.2.2.2.2 k hk).1
    simp only [F_X8_block, C.ob, F_X8_block_b, F_X8_block_23, versionOf_t w C hk, Option.bind_some, if_neg (rD_ne _), V.f.1, row_at_any hf, cl_nI (show k < 2 ^ 31 by omega)]
    by_cases h2 : vd (rl S k) i
    · obtain ⟨j, hj, rfl⟩ := nI_of_toInt h2.1 h2.2
      rw [if_pos h2, if_pos h2, cl_nI (by omega), hf2 j hj]
    · rw [if_neg h2, if_neg h2]
  · rw [if_neg hv]
    simp only [F_X8_block, C.ob, F_X8_block_b, F_X8_block_23, versionOf_f w C hv, Option.bind_some, if_true]
end CL
