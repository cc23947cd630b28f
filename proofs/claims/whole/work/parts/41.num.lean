/-! numbers -/
theorem lit (n : Nat) : (OfNat.ofNat n : Int32) = nI n := rfl
theorem nI_mulN (a b : Nat) : nI a * nI b = nI (a * b) := (Int32.ofNat_mul a b).symm
theorem nI_subN {a b : Nat} (h : b ≤ a) : nI a - nI b = nI (a - b) := by
  have h1 : nI a = nI (a - b) + nI b := by rw [nI_add, Nat.sub_add_cancel h]
  rw [h1, Int32.add_sub_cancel]
theorem nI_pre {n : Nat} (h : n < 2 ^ 31) : (nI n - 1).toInt = (n : Int) - 1 := by
  have h1 : (1 : Int32).toInt = 1 := by decide
  rw [Int32.toInt_sub, nI_toInt h, h1]
  exact Int.bmod_eq_of_le (by omega) (by omega)
theorem ix_nI {k N : Nat} (h : k < N) (hN : N < 2 ^ 31) : am_ix (nI k) N = some k := by
  unfold am_ix
  rw [nI_clamp (by omega), if_pos ⟨nI_pos' (by omega), h⟩]
theorem nI_of_toInt {v : Int32} {n : Nat} (h0 : 0 ≤ v.toInt) (h : v.toInt < n) : ∃ k, k < n ∧ v = nI k := by
  obtain ⟨j, hj, rfl⟩ := nI_of (x := v) (by rw [Int32.lt_iff_toInt_lt, Int32.toInt_zero]; omega)
  rw [nI_toInt hj] at h
  exact ⟨j, by omega, rfl⟩
theorem cmp_lt {a b : Int64} : lg_cmp a b < 0 ↔ a.toInt < b.toInt := by
  unfold lg_cmp
  rw [← Int64.lt_iff_toInt_lt]
  by_cases h1 : b < a
  · have h2 : ¬ a < b := by rw [Int64.lt_iff_toInt_lt] at h1 ⊢; omega
    simp [h1, h2]
  · by_cases h2 : a = b
    · subst h2
      simp [h1]
    · have h3 : a < b := by
        rw [Int64.lt_iff_toInt_lt] at h1 ⊢
        have : a.toInt ≠ b.toInt := fun q => h2 (Int64.toInt_inj.mp q)
        omega
      simp [h1, h2, h3]
theorem cmp_gt {a b : Int64} : 0 < lg_cmp a b ↔ b.toInt < a.toInt := by
  unfold lg_cmp
  rw [← Int64.lt_iff_toInt_lt]
  by_cases h1 : b < a
  · simp [h1]
  · by_cases h2 : a = b
    · subst h2
      simp [h1]
    · simp [h1, h2]
def bI : Bool → Int32
  | true => 1
  | false => 0
def bN : Bool → Nat
  | true => 1
  | false => 0
def oneI (x : Int32) : Int32 := if x = 0 then 0 else 1
theorem bI_N (b : Bool) : bI b = nI (bN b) := by cases b <;> rfl
theorem oneI_b (b : Bool) : oneI (bI b) = nI (bN b) := by cases b <;> rfl
theorem oneI_z : oneI 0 = nI 0 := rfl
theorem oneI_1 : oneI 1 = nI 1 := rfl
theorem z_b (b : Bool) : am_z (bI b) = some (bI b) := by cases b <;> rfl
theorem bI_0 (b : Bool) : bI b = 0 ↔ b = false := by cases b <;> decide
/-! the reference's smallest methods -/
theorem in_spec (a b c : Int64) (h : am_H) : F_X9_in a b c h = some (if b.toInt ≤ a.toInt ∧ a.toInt ≤ c.toInt then 1 else 0) := by
  simp only [F_X9_in, F_X9_in_b, F_X9_in_17, F_X9_in_18, cmp_lt, cmp_gt]
  by_cases h1 : a.toInt < b.toInt
  · rw [if_pos h1, if_neg (by omega)]; rfl
  · rw [if_neg h1]
    by_cases h2 : c.toInt < a.toInt
    · rw [if_pos h2, if_neg (by omega)]; rfl
    · rw [if_neg h2, if_pos (by omega)]; rfl
theorem one_spec (x : Int32) (h : am_H) : F_X9_one x h = some (oneI x) := by
  simp only [F_X9_one, F_X9_one_b, F_X9_one_9, oneI]
  split <;> rfl
section M1
variable {X : Fin 87 → am_C} {I : Nat → Int32} {A : Nat → Nat → Int32} {Y : am_H}
theorem noVersion_spec {nv : Nat} (hI : I 6 = nI nv) (hn : nv < 2 ^ 31) (v : Int32) : F_X9_noVersion 88 v (md X I A Y) = some (if 0 ≤ v.toInt ∧ v.toInt < nv then 0 else 1) := by
  simp only [F_X9_noVersion, F_X9_noVersion_b, F_X9_noVersion_21, md_obj, md_gi0, md_gi2, md_gi6, md_gi14, md_gi16, md_gi17, md_gi18, md_gi19, md_gi22, md_gi24, md_gi25, md_gi29, md_gi30, md_gi35, md_gi39, md_gr1, md_gr3, md_gr4, md_gr5, md_gr7, md_gr8, md_gr9, md_gr10, md_gr11, md_gr12, md_gr13, md_gr15, md_gr20, md_gr21, md_gr23, md_gr26, md_gr27, md_gr28, md_gr31, md_gr32, md_gr33, md_gr34, md_gr36, md_gr37, md_gr38, md_gr40, md_gr41, md_il1, md_il3, md_il4, md_il5, md_il7, md_il8, md_il9, md_il10, md_il11, md_il12, md_il13, md_il15, md_il20, md_il21, md_il23, md_il26, md_il27, md_il28, md_il31, md_il32, md_il33, md_il34, md_il36, md_il37, md_il38, md_il40, md_il41, Option.bind_some, in_spec, hI, Int32.toInt_toInt64, nI_pre hn]
  rw [show (0 : Int64).toInt = 0 from rfl]
  by_cases h : 0 ≤ v.toInt ∧ v.toInt < nv
  · rw [if_pos (show 0 ≤ v.toInt ∧ v.toInt ≤ (nv : Int) - 1 by omega), if_pos h]; rfl
  · rw [if_neg (show ¬ (0 ≤ v.toInt ∧ v.toInt ≤ (nv : Int) - 1) by omega), if_neg h]; rfl
theorem noBlock_spec {nb : Nat} (hI : I 2 = nI nb) (hn : nb < 2 ^ 31) (b : Int32) : F_X9_noBlock 88 b (md X I A Y) = some (if 0 ≤ b.toInt ∧ b.toInt < nb then 0 else 1) := by
  simp only [F_X9_noBlock, F_X9_noBlock_b, F_X9_noBlock_21, md_obj, md_gi0, md_gi2, md_gi6, md_gi14, md_gi16, md_gi17, md_gi18, md_gi19, md_gi22, md_gi24, md_gi25, md_gi29, md_gi30, md_gi35, md_gi39, md_gr1, md_gr3, md_gr4, md_gr5, md_gr7, md_gr8, md_gr9, md_gr10, md_gr11, md_gr12, md_gr13, md_gr15, md_gr20, md_gr21, md_gr23, md_gr26, md_gr27, md_gr28, md_gr31, md_gr32, md_gr33, md_gr34, md_gr36, md_gr37, md_gr38, md_gr40, md_gr41, md_il1, md_il3, md_il4, md_il5, md_il7, md_il8, md_il9, md_il10, md_il11, md_il12, md_il13, md_il15, md_il20, md_il21, md_il23, md_il26, md_il27, md_il28, md_il31, md_il32, md_il33, md_il34, md_il36, md_il37, md_il38, md_il40, md_il41, Option.bind_some, in_spec, hI, Int32.toInt_toInt64, nI_pre hn]
  rw [show (0 : Int64).toInt = 0 from rfl]
  by_cases h : 0 ≤ b.toInt ∧ b.toInt < nb
  · rw [if_pos (show 0 ≤ b.toInt ∧ b.toInt ≤ (nb : Int) - 1 by omega), if_pos h]; rfl
  · rw [if_neg (show ¬ (0 ≤ b.toInt ∧ b.toInt ≤ (nb : Int) - 1) by omega), if_neg h]; rfl
theorem blockAt_spec {v i : Nat} (h : 8 * v + i < 240) : F_X9_blockAt 88 (nI v) (nI i) (md X I A Y) = some (A 8 (8 * v + i)) := by
  simp only [F_X9_blockAt, F_X9_blockAt_b, md_obj, md_gi0, md_gi2, md_gi6, md_gi14, md_gi16, md_gi17, md_gi18, md_gi19, md_gi22, md_gi24, md_gi25, md_gi29, md_gi30, md_gi35, md_gi39, md_gr1, md_gr3, md_gr4, md_gr5, md_gr7, md_gr8, md_gr9, md_gr10, md_gr11, md_gr12, md_gr13, md_gr15, md_gr20, md_gr21, md_gr23, md_gr26, md_gr27, md_gr28, md_gr31, md_gr32, md_gr33, md_gr34, md_gr36, md_gr37, md_gr38, md_gr40, md_gr41, md_il1, md_il3, md_il4, md_il5, md_il7, md_il8, md_il9, md_il10, md_il11, md_il12, md_il13, md_il15, md_il20, md_il21, md_il23, md_il26, md_il27, md_il28, md_il31, md_il32, md_il33, md_il34, md_il36, md_il37, md_il38, md_il40, md_il41, Option.bind_some, lit, nI_mulN, nI_add, ix_nI h (by decide)]
theorem sign_spec {b k : Nat} (h : 24 * b + k < 4800) : F_X9_sign 88 (nI b) (nI k) (md X I A Y) = some (A 4 (24 * b + k)) := by
  simp only [F_X9_sign, F_X9_sign_b, md_obj, md_gi0, md_gi2, md_gi6, md_gi14, md_gi16, md_gi17, md_gi18, md_gi19, md_gi22, md_gi24, md_gi25, md_gi29, md_gi30, md_gi35, md_gi39, md_gr1, md_gr3, md_gr4, md_gr5, md_gr7, md_gr8, md_gr9, md_gr10, md_gr11, md_gr12, md_gr13, md_gr15, md_gr20, md_gr21, md_gr23, md_gr26, md_gr27, md_gr28, md_gr31, md_gr32, md_gr33, md_gr34, md_gr36, md_gr37, md_gr38, md_gr40, md_gr41, md_il1, md_il3, md_il4, md_il5, md_il7, md_il8, md_il9, md_il10, md_il11, md_il12, md_il13, md_il15, md_il20, md_il21, md_il23, md_il26, md_il27, md_il28, md_il31, md_il32, md_il33, md_il34, md_il36, md_il37, md_il38, md_il40, md_il41, Option.bind_some, lit, nI_mulN, nI_add, ix_nI h (by decide)]
end M1
