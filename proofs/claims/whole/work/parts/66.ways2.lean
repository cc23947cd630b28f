/-! ways, bound, entropy: both sides -/
theorem cnt_nI {n s : Nat} {f : Nat → Int32} {g : Nat → Nat} (hf : ∀ i, i < n → f i = nI (g i)) (hg : ∀ i, i < n → g i < 2 ^ 31) (hs : s < 2 ^ 31) : cntN (fun i => f i == nI s) n = cntN (fun i => g i == s) n :=
  cntN_cong n (fun i hi => by
    show (f i == nI s) = (g i == s)
    rw [hf i hi]
    by_cases e : g i = s
    · simp [e]
    · have h1 : ¬ nI (g i) = nI s := fun q => e ((nI_eq (hg i hi) hs).mp q)
      rw [beq_eq_false_iff_ne.mpr h1, beq_eq_false_iff_ne.mpr e])
theorem isSign_spec (s : Int32) (h : am_H) : F_X8_isSign s h = some (if 0 ≤ s.toInt ∧ s.toInt ≤ 15 then 1 else 0) := by
  have a0 : (s < (0 : Int32)) ↔ s.toInt < 0 := (lt_lit (x := s) (n := 0) (by decide)).1
  have a1 : ((16 : Int32) ≤ s) ↔ 16 ≤ s.toInt := (lt_lit (x := s) (n := 16) (by decide)).2.2.2
  simp only [F_X8_isSign, F_X8_isSign_b, F_X8_isSign_14, F_X8_isSign_15]
  by_cases c1 : s.toInt < 0
  · rw [if_pos (a0.mpr c1), if_neg (by omega)]; rfl
  · rw [if_neg (fun q => c1 (a0.mp q))]
    by_cases c2 : 16 ≤ s.toInt
    · rw [if_pos (a1.mpr c2), if_neg (by omega)]; rfl
    · rw [if_neg (fun q => c2 (a1.mp q)), if_pos (by omega)]; rfl
section WX
variable {Z : sZ} {S : sS} {pb pv : Nat → Nat} {h : am_H}
/-- the block's signs -/
theorem BlkAt.sg (w : WF S) (C : RX Z S pb pv h) {b : Nat} (hb : b < nb S) (ht : tn S b = false) : ∃ f, RowAt h (rD (pb b) + 5) (ln S b) (ln S b) f ∧ ∀ k, k < ln S b → f k = nI (sg S b k) := by
  obtain ⟨f, r, hf⟩ := (C.2.2.2.2.2.1 b hb).2.1
  exact ⟨f, r, hf ht⟩
theorem x_times (w : WF S) (C : RX Z S pb pv h) {b s : Nat} (hb : b < nb S) (ht : tn S b = false) (hs : s < 2 ^ 31) : F_X4_times (rD (pb b) + 5) (nI s) h = some (nI (oft S b s)) := by
  obtain ⟨f, r, hf⟩ := BlkAt.sg w C hb ht
  rw [row_times r, cnt_nI hf (fun i hi => by have := (w.2.2.1.2 b hb).2 i hi; omega) hs]
  rfl
theorem x_entropy (w : WF S) (C : RX Z S pb pv h) (b k : Int32) : F_X8_entropy 1 b k h = some (sp_entropy S b k) := by
  unfold sp_entropy
  by_cases hb : vd (nb S) b
  · obtain ⟨j, hj, rfl⟩ := nI_of_toInt hb.1 hb.2
    have hn := w.2.2.1.1
    have B := C.2.2.2.2.2.1 j hj
    obtain ⟨f, hf, hf2⟩ := B.2.1
    rw [if_pos hb, cl_nI (show j < 2 ^ 31 by omega)]
    simp only [F_X8_entropy, C.ob, F_X8_entropy_b, F_X8_entropy_28, F_X8_entropy_61, blockOf_t w C hj, Option.bind_some, if_neg (rD_ne _), isSign_spec, B.f, bI_0, row_length hf]
    have m1 : (k = (-1 : Int32)) ↔ k.toInt = -1 := by
      rw [← Int32.toInt_inj]
      rfl
    have p0 : (0 ≤ k) ↔ 0 ≤ k.toInt := (lt_lit (x := k) (n := 0) (by decide)).2.2.2
    by_cases c1 : k.toInt = -1
    · rw [if_pos (m1.mpr c1), if_pos (show -1 ≤ k.toInt ∧ k.toInt ≤ 15 by omega), if_pos (m1.mpr c1), if_neg (show ¬ (0 ≤ k) from fun q => by have := p0.mp q; omega)]
      cases tn S j <;> rfl
    · rw [if_neg (fun q => c1 (m1.mp q)), if_neg (fun q => c1 (m1.mp q))]
      by_cases c2 : 0 ≤ k.toInt ∧ k.toInt ≤ 15
      · rw [if_pos c2, if_neg i1ne0, if_pos (show -1 ≤ k.toInt ∧ k.toInt ≤ 15 by omega), if_pos (p0.mpr c2.1)]
        cases ht : tn S j with
        | true => rfl
        | false =>
          obtain ⟨s, hs, rfl⟩ := nI_of_toInt (n := 16) (v := k) c2.1 (by omega)
          rw [x_times w C hj ht (by omega), cl_nI (by omega)]
          rfl
      · rw [if_neg c2, if_pos rfl, if_neg (show ¬ (-1 ≤ k.toInt ∧ k.toInt ≤ 15) by omega)]
  · rw [if_neg hb]
    simp only [F_X8_entropy, C.ob, F_X8_entropy_b, blockOf_f w C hb, Option.bind_some, if_true]
/-! ways -/
theorem xways_in {K : Nat → Int64 → Int32 → Int32 → am_H → Option Int64} {a W p t : Nat} {v4 : Int32} (hW : W ≤ fac p) (hp : p + t ≤ 20) : ∀ (n j c : Nat), c + j = t → j < n → F_X8_waysOf_25 K n a (Int64.ofNat (W * bc (p + c) c)) (nI (p + c)) v4 (nI t) (nI (c + 1)) h = K a (Int64.ofNat (W * bc (p + t) t)) (nI (p + t)) (v4 + 1) h
  | 0, j, c, h1, h2 => by omega
  | n + 1, 0, c, h1, h2 => by
    rw [F_X8_waysOf_25, if_pos (nI_lt (by omega) (by omega)), show c = t by omega]
  | n + 1, j + 1, c, h1, h2 => by
    have hb : W * bc (p + c) c * (p + c + 1) < 2 ^ 63 := by
      have := step_le (m := p) (k := c) hW
      have h3 := fac_mono (show p + c + 1 ≤ 20 by omega)
      rw [fac_20] at h3
      omega
    rw [F_X8_waysOf_25, if_neg (nI_nlt (by omega) (by omega)), nI_1, L_32 (show c + 1 < 2 ^ 31 by omega), L_32 (show p + c + 1 < 2 ^ 31 by omega), if_neg (L_ne0 (by omega) (by omega)), L_mul, L_div hb (by omega), step_div, nI_1]
    exact xways_in hW hp n j (c + 1) (by omega) (by omega)
theorem xways_out (w : WF S) (C : RX Z S pb pv h) {b : Nat} (hb : b < nb S) (ht : tn S b = false) (hl : ln S b ≤ 20) : ∀ (n j s : Nat), s + j = 16 → j < n → F_X8_waysOf_7 n (rD (pb b) + 5) (Int64.ofNat (wc (oft S b) s)) (nI (sumN (oft S b) s)) (nI s) h = some (Int64.ofNat (wc (oft S b) 16))
  | 0, j, s, h1, h2 => by omega
  | n + 1, 0, s, h1, h2 => by
    rw [F_X8_waysOf_7, if_pos (show (16 : Int32) ≤ nI s from nI_le (a := 16) (by omega) (by omega)), show s = 16 by omega]
  | n + 1, j + 1, s, h1, h2 => by
    have ha := cnt_all (f := sg S b) (M := 16) (ln S b) (w.2.2.1.2 b hb).2
    have hs : sumN (oft S b) (s + 1) ≤ sumN (oft S b) 16 := sumN_mono (by omega)
    have hs2 : sumN (oft S b) 16 = ln S b := ha
    have hs3 : sumN (oft S b) (s + 1) = sumN (oft S b) s + oft S b s := rfl
    rw [F_X8_waysOf_7, if_neg (show ¬ (16 : Int32) ≤ nI s from nI_ge (b := 16) (by omega) (by omega))]
    simp only [x_times w C hb ht (show s < 2 ^ 31 by omega), Option.bind_some]
    have := xways_in (h := h) (K := F_X8_waysOf_7 n) (a := rD (pb b) + 5) (W := wc (oft S b) s) (p := sumN (oft S b) s) (t := oft S b s) (v4 := nI s) (wc_le _ _) (by omega) am_F (oft S b s) 0 (by omega) (by show _ < 100000; omega)
    rw [bc_0, Nat.mul_one] at this
    refine Eq.trans this ?_
    rw [nI_1]
    exact xways_out w C hb ht hl n j (s + 1) (by omega) (by omega)
theorem x_waysOf (w : WF S) (C : RX Z S pb pv h) {b : Nat} (hb : b < nb S) (ht : tn S b = false) (hl : ln S b ≤ 20) : F_X8_waysOf (rD (pb b) + 5) h = some (Int64.ofNat (wc (oft S b) 16)) := by
  simp only [F_X8_waysOf, F_X8_waysOf_b]
  exact xways_out w C hb ht hl am_F 16 0 (by omega) (by show _ < 100000; omega)
/-- why there is no answer; 0: there is one -/
def whyW (S : sS) (b : Int32) : Int32 := if vd (nb S) b then (if ln S b.toNatClampNeg ≤ 20 then (if tn S b.toNatClampNeg = true then -100005 else 0) else -100003) else -100001
def sp_ways (S : sS) (b : Int32) : Int64 := if whyW S b = 0 then Int64.ofNat (wc (oft S b.toNatClampNeg) 16) else (whyW S b).toInt64
/-- how many bits tell so many ways apart, from n on, at most m steps -/
def bitsF (W : Nat) : Nat → Nat → Nat
  | 0, n => n
  | m + 1, n => if W ≤ 2 ^ n then n else bitsF W m (n + 1)
def sp_bound (S : sS) (b : Int32) : Int32 := if whyW S b = 0 then nI (bitsF (wc (oft S b.toNatClampNeg) 16) 62 0) else whyW S b
theorem whyW_f {b : Int32} (hb : ¬ vd (nb S) b) : whyW S b = -100001 := if_neg hb
theorem whyW_t {j : Nat} (w : WF S) (hj : j < nb S) : whyW S (nI j) = if ln S j ≤ 20 then (if tn S j = true then -100005 else 0) else -100003 := by
  have hn := w.2.2.1.1
  unfold whyW
  rw [if_pos (vd_nI hj (by omega)), cl_nI (by omega)]
theorem why_0 {j : Nat} (w : WF S) (hj : j < nb S) (h0 : whyW S (nI j) = 0) : ln S j ≤ 20 ∧ tn S j = false := by
  rw [whyW_t w hj] at h0
  by_cases c1 : ln S j ≤ 20
  · rw [if_pos c1] at h0
    cases ht : tn S j with
    | true => rw [ht] at h0; exact absurd h0 (by decide)
    | false => exact ⟨c1, rfl⟩
  · rw [if_neg c1] at h0
    exact absurd h0 (by decide)
theorem x_why (w : WF S) (C : RX Z S pb pv h) {j : Nat} (hj : j < nb S) : F_X8_refusalOfWays (rD (pb j)) h = some (whyW S (nI j)) := by
  have B := C.2.2.2.2.2.1 j hj
  obtain ⟨f, hf, hf2⟩ := B.2.1
  have hl := (w.2.2.1.2 j hj).1
  rw [whyW_t w hj]
  simp only [F_X8_refusalOfWays, F_X8_refusalOfWays_b, F_X8_refusalOfWays_35, if_neg (rD_ne _), B.f, Option.bind_some, row_length hf, bI_0]
  by_cases c1 : ln S j ≤ 20
  · rw [if_pos (show nI (ln S j) ≤ (20 : Int32) from nI_le c1 (by decide)), if_pos c1]
    cases tn S j <;> rfl
  · rw [if_neg (show ¬ nI (ln S j) ≤ (20 : Int32) from nI_ge (show 20 < ln S j by omega) (by omega)), if_neg c1]
theorem x_ways (w : WF S) (C : RX Z S pb pv h) (b : Int32) : F_X8_ways 1 b h = some (sp_ways S b) := by
  unfold sp_ways
  by_cases hb : vd (nb S) b
  · obtain ⟨j, hj, rfl⟩ := nI_of_toInt hb.1 hb.2
    have hn := w.2.2.1.1
    simp only [F_X8_ways, C.ob, F_X8_ways_b, F_X8_ways_19, blockOf_t w C hj, Option.bind_some, if_neg (rD_ne _), x_why w C hj, (C.2.2.2.2.2.1 j hj).f]
    by_cases h0 : whyW S (nI j) = 0
    · obtain ⟨h1, h2⟩ := why_0 w hj h0
      rw [if_pos h0, if_pos h0, x_waysOf w C hj h2 h1, cl_nI (by omega)]
      rfl
    · rw [if_neg h0, if_neg h0]
  · rw [whyW_f hb, if_neg (by decide)]
    simp only [F_X8_ways, C.ob, F_X8_ways_b, F_X8_ways_19, blockOf_f w C hb, Option.bind_some, F_X8_refusalOfWays, F_X8_refusalOfWays_b, if_true]
theorem shl1 : ∀ v, v < 63 → ((1 : Int64) <<< (Int32.toInt64 (nI v) &&& 63)).toInt = (2 ^ v : Nat) := by decide +kernel
theorem cmp_ge {a b : Int64} : 0 ≤ lg_cmp a b ↔ b.toInt ≤ a.toInt := by
  have h1 := cmp_lt (a := a) (b := b)
  have h2 : (lg_cmp a b < 0) ↔ ¬ (0 ≤ lg_cmp a b) := by
    rw [Int32.lt_iff_toInt_lt, Int32.le_iff_toInt_le]
    omega
  rw [h2] at h1
  constructor
  · intro q
    have : ¬ a.toInt < b.toInt := fun z => (h1.mpr z) q
    omega
  · intro q
    by_cases z : 0 ≤ lg_cmp a b
    · exact z
    · have := h1.mp z
      omega
theorem xbound_loop {W : Nat} (hW : W ≤ 2 ^ 62) : ∀ (m j n : Nat), n + j = 62 → j < m → F_X8_bound_33 m (Int64.ofNat W) (nI n) h = some (nI (bitsF W j n))
  | 0, j, n, h1, h2 => by omega
  | m + 1, j, n, h1, h2 => by
    rw [F_X8_bound_33, if_neg (show ¬ (63 : Int32) ≤ nI n from nI_ge (b := 63) (by omega) (by omega))]
    simp only [F_X8_bound_56, cmp_ge, shl1 n (by omega), L_toInt (show W < 2 ^ 63 by omega)]
    cases j with
    | zero =>
      have e : n = 62 := by omega
      rw [e, if_pos (by omega)]
      rfl
    | succ j =>
      unfold bitsF
      by_cases hc : W ≤ 2 ^ n
      · rw [if_pos (by omega), if_pos hc]
      · rw [if_neg (by omega), if_neg hc, nI_1]
        exact xbound_loop hW m j (n + 1) (by omega) (by omega)
theorem wc_62 {b : Nat} (w : WF S) (hb : b < nb S) (hl : ln S b ≤ 20) : wc (oft S b) 16 ≤ 2 ^ 62 := by
  have ha : sumN (oft S b) 16 = ln S b := cnt_all (f := sg S b) (M := 16) (ln S b) (w.2.2.1.2 b hb).2
  have h1 := wc_le (oft S b) 16
  rw [ha] at h1
  have h3 := fac_mono hl
  rw [fac_20] at h3
  omega
theorem x_bound (w : WF S) (C : RX Z S pb pv h) (b : Int32) : F_X8_bound 1 b h = some (sp_bound S b) := by
  unfold sp_bound
  by_cases hb : vd (nb S) b
  · obtain ⟨j, hj, rfl⟩ := nI_of_toInt hb.1 hb.2
    have hn := w.2.2.1.1
    simp only [F_X8_bound, C.ob, F_X8_bound_b, F_X8_bound_19, blockOf_t w C hj, Option.bind_some, if_neg (rD_ne _), x_why w C hj, (C.2.2.2.2.2.1 j hj).f]
    by_cases h0 : whyW S (nI j) = 0
    · obtain ⟨h1, h2⟩ := why_0 w hj h0
      rw [if_pos h0, if_pos h0, x_waysOf w C hj h2 h1, cl_nI (by omega), Option.bind_some]
      exact xbound_loop (wc_62 w hj h1) am_F 62 0 (by omega) (by show _ < 100000; omega)
    · rw [if_neg h0, if_neg h0]
  · rw [whyW_f hb, if_neg (by decide)]
    simp only [F_X8_bound, C.ob, F_X8_bound_b, F_X8_bound_19, blockOf_f w C hb, Option.bind_some, F_X8_refusalOfWays, F_X8_refusalOfWays_b, if_true]
end WX
section WM
variable {X : Fin 87 → am_C} {I : Nat → Int32} {A : Nat → Nat → Int32} {Y : am_H} {S : sS} {h : am_H}
theorem mways_in {K : Nat → Int32 → Int64 → Int32 → Int32 → am_H → Option Int64} {a m t : Nat} {v1 v5 : Int32} {v2 : Int64} (hp : m + t ≤ 20) : ∀ (n j c : Nat), c + j = t → j < n → F_X9_waysOf_35 K n a v1 v2 (nI (m + t)) v5 (nI t) (Int64.ofNat (bc (m + c) c)) (nI (c + 1)) h = K a v1 (v2 * Int64.ofNat (bc (m + t) t)) (nI m) (v5 + 1) h
  | 0, j, c, h1, h2 => by omega
  | n + 1, 0, c, h1, h2 => by
    rw [F_X9_waysOf_35, if_pos (nI_lt (by omega) (by omega)), show c = t by omega, nI_subN (by omega), Nat.add_sub_cancel]
  | n + 1, j + 1, c, h1, h2 => by
    have hb : bc (m + c) c * (m + c + 1) < 2 ^ 63 := by
      have := step_le (W := 1) (m := m) (k := c) (fac_pos m)
      have h3 := fac_mono (show m + c + 1 ≤ 20 by omega)
      rw [fac_20] at h3
      rw [Nat.one_mul] at this
      omega
    have hd := step_div (W := 1) (m := m) (k := c)
    rw [Nat.one_mul, Nat.one_mul] at hd
    rw [F_X9_waysOf_35, if_neg (nI_nlt (by omega) (by omega)), L_32 (show c + 1 < 2 ^ 31 by omega), if_neg (L_ne0 (by omega) (by omega)), nI_subN (by omega), Nat.add_sub_cancel, nI_add, show m + (c + 1) = m + c + 1 by omega, L_32 (show m + c + 1 < 2 ^ 31 by omega), L_mul, L_div hb (by omega), hd, nI_1]
    exact mways_in hp n j (c + 1) (by omega) (by omega)
theorem mways_out (w : WF S) (R : RM S I A) {b : Nat} (hb : b < nb S) (hl : ln S b ≤ 20) : ∀ (n j s : Nat), s + j = 16 → j < n → F_X9_waysOf_13 n 88 (nI b) (Int64.ofNat (wr (oft S b) (ln S b) s)) (nI (ln S b - sumN (oft S b) s)) (nI s) (md X I A Y) = some (Int64.ofNat (wr (oft S b) (ln S b) 16))
  | 0, j, s, h1, h2 => by omega
  | n + 1, 0, s, h1, h2 => by
    rw [F_X9_waysOf_13, if_pos (show (16 : Int32) ≤ nI s from nI_le (a := 16) (by omega) (by omega)), show s = 16 by omega]
  | n + 1, j + 1, s, h1, h2 => by
    have hs2 : sumN (oft S b) 16 = ln S b := cnt_all (f := sg S b) (M := 16) (ln S b) (w.2.2.1.2 b hb).2
    have hs : sumN (oft S b) (s + 1) ≤ sumN (oft S b) 16 := sumN_mono (by omega)
    have hs3 : sumN (oft S b) (s + 1) = sumN (oft S b) s + oft S b s := rfl
    rw [F_X9_waysOf_13, if_neg (show ¬ (16 : Int32) ≤ nI s from nI_ge (b := 16) (by omega) (by omega))]
    simp only [often_spec w R hb (show s < 2 ^ 31 by omega), Option.bind_some]
    have := mways_in (h := md X I A Y) (K := F_X9_waysOf_13 n) (a := 88) (m := ln S b - sumN (oft S b) (s + 1)) (t := oft S b s) (v1 := nI b) (v5 := nI s) (v2 := Int64.ofNat (wr (oft S b) (ln S b) s)) (by omega) am_F (oft S b s) 0 (by omega) (by show _ < 100000; omega)
    rw [bc_0, show ln S b - sumN (oft S b) (s + 1) + oft S b s = ln S b - sumN (oft S b) s by omega] at this
    refine Eq.trans this ?_
    rw [nI_1, L_mul]
    exact mways_out w R hb hl n j (s + 1) (by omega) (by omega)
theorem m_waysOf (w : WF S) (R : RM S I A) {b : Nat} (hb : b < nb S) (hl : ln S b ≤ 20) : F_X9_waysOf 88 (nI b) (md X I A Y) = some (Int64.ofNat (wc (oft S b) 16)) := by
  have hs2 : sumN (oft S b) 16 = ln S b := cnt_all (f := sg S b) (M := 16) (ln S b) (w.2.2.1.2 b hb).2
  simp only [F_X9_waysOf, F_X9_waysOf_b, md_obj, md_gr3, Option.bind_some, A3 w R hb]
  have := mways_out (X := X) (Y := Y) w R hb hl am_F 16 0 (by omega) (by show _ < 100000; omega)
  rw [w_same _ hs2] at this
  exact this
theorem m_why (w : WF S) (R : RM S I A) (b : Int32) : F_X9_whyNoWays 88 b (md X I A Y) = some (whyW S b) := by
  by_cases hb : vd (nb S) b
  · obtain ⟨j, hj, rfl⟩ := nI_of_toInt hb.1 hb.2
    have hl := (w.2.2.1.2 j hj).1
    rw [whyW_t w hj]
    simp only [F_X9_whyNoWays, F_X9_whyNoWays_b, F_X9_whyNoWays_44, md_obj, md_gr3, md_gr5, Option.bind_some, noB_t w R hb, if_true, A3 w R hj, A5 w R hj, bI_0]
    by_cases c1 : ln S j ≤ 20
    · rw [if_pos (show nI (ln S j) ≤ (20 : Int32) from nI_le c1 (by decide)), if_pos c1]
      cases tn S j <;> rfl
    · rw [if_neg (show ¬ nI (ln S j) ≤ (20 : Int32) from nI_ge (show 20 < ln S j by omega) (by omega)), if_neg c1]
  · rw [whyW_f hb]
    simp only [F_X9_whyNoWays, F_X9_whyNoWays_b, F_X9_whyNoWays_44, md_obj, Option.bind_some, noB_f w R hb, if_neg i1ne0]
theorem m_ways (w : WF S) (R : RM S I A) (b : Int32) : F_X9_ways 88 b (md X I A Y) = some (sp_ways S b) := by
  unfold sp_ways
  simp only [F_X9_ways, F_X9_ways_b, F_X9_ways_20, md_obj, Option.bind_some, m_why w R]
  by_cases h0 : whyW S b = 0
  · rw [if_pos h0, if_pos h0]
    have hb : vd (nb S) b := by
      by_cases q : vd (nb S) b
      · exact q
      · rw [whyW_f q] at h0
        exact absurd h0 (by decide)
    obtain ⟨j, hj, rfl⟩ := nI_of_toInt hb.1 hb.2
    have hn := w.2.2.1.1
    rw [m_waysOf w R hj (why_0 w hj h0).1, cl_nI (by omega)]
    rfl
  · rw [if_neg h0, if_neg h0]
theorem mbound_loop (w : WF S) (R : RM S I A) {b : Nat} (hb : b < nb S) (hl : ln S b ≤ 20) : ∀ (m j n : Nat), n + j = 62 → j < m → F_X9_bound_14 m 88 (nI b) (nI n) (md X I A Y) = some (nI (bitsF (wc (oft S b) 16) j n))
  | 0, j, n, h1, h2 => by omega
  | m + 1, 0, n, h1, h2 => by
    rw [F_X9_bound_14, if_pos (show (62 : Int32) ≤ nI n from nI_le (a := 62) (by omega) (by omega))]
    rfl
  | m + 1, j + 1, n, h1, h2 => by
    have h62 := wc_62 w hb hl
    rw [F_X9_bound_14, if_neg (show ¬ (62 : Int32) ≤ nI n from nI_ge (b := 62) (by omega) (by omega))]
    simp only [F_X9_bound_38, m_waysOf w R hb hl, Option.bind_some, cmp_ge, shl1 n (by omega), L_toInt (show wc (oft S b) 16 < 2 ^ 63 by omega)]
    unfold bitsF
    by_cases hc : wc (oft S b) 16 ≤ 2 ^ n
    · rw [if_pos (by omega), if_pos hc]
    · rw [if_neg (by omega), if_neg hc, nI_1]
      exact mbound_loop w R hb hl m j (n + 1) (by omega) (by omega)
theorem m_bound (w : WF S) (R : RM S I A) (b : Int32) : F_X9_bound 88 b (md X I A Y) = some (sp_bound S b) := by
  unfold sp_bound
  simp only [F_X9_bound, F_X9_bound_b, md_obj, Option.bind_some, m_why w R]
  by_cases h0 : whyW S b = 0
  · rw [if_pos h0, if_pos h0]
    have hb : vd (nb S) b := by
      by_cases q : vd (nb S) b
      · exact q
      · rw [whyW_f q] at h0
        exact absurd h0 (by decide)
    obtain ⟨j, hj, rfl⟩ := nI_of_toInt hb.1 hb.2
    have hn := w.2.2.1.1
    rw [cl_nI (by omega)]
    exact mbound_loop w R hj (why_0 w hj h0).1 am_F 62 0 (by omega) (by show _ < 100000; omega)
  · rw [if_neg h0, if_neg h0]
end WM
section OPS3
variable {Z : sZ}
theorem o_entropy : am_op_entropy (Inv Z) := by
  rintro h a0 a1 ⟨S, pb, pv, X, I, A, Y, w, R, rfl, C, -⟩
  exact ⟨_, x_entropy w C a0 a1, m_entropy w R a0 a1⟩
theorem o_ways : am_op_ways (Inv Z) := by
  rintro h a0 ⟨S, pb, pv, X, I, A, Y, w, R, rfl, C, -⟩
  exact ⟨_, x_ways w C a0, m_ways w R a0⟩
theorem o_bound : am_op_bound (Inv Z) := by
  rintro h a0 ⟨S, pb, pv, X, I, A, Y, w, R, rfl, C, -⟩
  exact ⟨_, x_bound w C a0, m_bound w R a0⟩
end OPS3
