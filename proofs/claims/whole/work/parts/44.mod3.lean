/-! the reference: has, told, count, share, often, entropy, tear, sums, sign, clear, feed -/
theorem sumN_bN (p : Nat → Bool) : ∀ n, sumN (fun i => bN (p i)) n = cntN p n
  | 0 => rfl
  | n + 1 => by simp only [sumN, cntN, sumN_bN p n]
def S_d (S : sS) (n : Nat) (f : Nat → Nat) : sS := ((n, f), S.2)
def S_p (S : sS) (n : Nat) (f : Nat → Nat) : sS := (S.1, (n, f), S.2.2)
def S_t (S : sS) (f : Nat → Bool) : sS := (S.1, S.2.1, (nb S, ln S, sg S, f), S.2.2.2)
theorem WF_t {S : sS} (w : WF S) (f : Nat → Bool) : WF (S_t S f) := w
theorem RM_keep {S : sS} {I I' : Nat → Int32} {A A' : Nat → Nat → Int32} (R : RM S I A) (hI : I' 0 = I 0 ∧ I' 2 = I 2 ∧ I' 6 = I 6 ∧ I' 39 = I 39) (hA : A' 1 = A 1 ∧ A' 40 = A 40 ∧ A' 3 = A 3 ∧ A' 4 = A 4 ∧ A' 5 = A 5 ∧ A' 7 = A 7 ∧ A' 8 = A 8 ∧ A' 9 = A 9 ∧ A' 10 = A 10 ∧ A' 11 = A 11 ∧ A' 12 = A 12) : RM S I' A' := by
  obtain ⟨a1, a2, a3, a4⟩ := hI
  obtain ⟨b1, b2, b3, b4, b5, b6, b7, b8, b9, b10, b11⟩ := hA
  unfold RM
  rw [a1, a2, a3, a4, b1, b2, b3, b4, b5, b6, b7, b8, b9, b10, b11]
  exact R
section M4
variable {X : Fin 87 → am_C} {I : Nat → Int32} {A : Nat → Nat → Int32} {Y : am_H} {S : sS}
theorem has_loop (w : WF S) (R : RM S I A) {v b : Nat} (hv : v < nv S) (hb : b < 200) : ∀ (n i : Nat), i ≤ rl S v → rl S v < i + n → F_X9_has_5 n 88 (nI v) (nI b) (bI (anyN (fun i => rw_ S v i == b) i)) (nI i) (md X I A Y) = some (bI (hasB S v b))
  | 0, i, h1, h2 => by omega
  | n + 1, i, h1, h2 => by
    have hw := (w.2.2.2.2 v hv).1
    rw [F_X9_has_5]
    simp only [md_gr7, Option.bind_some, A7 w R hv]
    by_cases hc : rl S v ≤ i
    · have e : i = rl S v := by omega
      rw [if_pos (nI_le hc (by omega)), e, z_b]
      rfl
    · rw [if_neg (nI_ge (by omega) (by omega))]
      have hi : i < rl S v := by omega
      have hr := hw.2 i hi
      have ih := has_loop w R hv hb n (i + 1) (by omega) (by omega)
      have hn := w.2.2.1.1
      have ea : anyN (fun i => rw_ S v i == b) (i + 1) = (anyN (fun i => rw_ S v i == b) i || (rw_ S v i == b)) := rfl
      rw [ea] at ih
      simp only [A8 w R hv hi, Option.bind_some, F_X9_has_31, F_X9_has_36, bI_0, nI_eq (show rw_ S v i < 2 ^ 31 by omega) (show b < 2 ^ 31 by omega), lit, nI_add]
      cases hq : anyN (fun i => rw_ S v i == b) i with
      | true => rw [hq] at ih; rw [if_neg (by decide)]; exact ih
      | false =>
        rw [hq] at ih
        rw [if_pos (show bI false = nI 0 from rfl)]
        by_cases he : rw_ S v i = b
        · have : (rw_ S v i == b) = true := by simpa using he
          rw [if_pos he]; rw [this] at ih; exact ih
        · have : (rw_ S v i == b) = false := by simpa using he
          rw [if_neg he]; rw [this] at ih; exact ih
theorem has_spec (w : WF S) (R : RM S I A) {v b : Nat} (hv : v < nv S) (hb : b < 200) : F_X9_has 88 (nI v) (nI b) (md X I A Y) = some (bI (hasB S v b)) := by
  simp only [F_X9_has, F_X9_has_b, md_obj, Option.bind_some]
  have hw := (w.2.2.2.2 v hv).1
  exact has_loop w R hv hb am_F 0 (by omega) (by show _ < 0 + 100000; omega)
def sp_told (S : sS) (b x : Int32) : Int32 := if vd (nb S) b then (if x = 0 then nI (ln S b.toNatClampNeg) else if x = 1 then nI (bN (tn S b.toNatClampNeg)) else if x = 2 then nI (cntN (fun v => hasB S v b.toNatClampNeg) (nv S)) else -100002) else -100001
theorem told_loop (w : WF S) (R : RM S I A) {b : Nat} (hb : b < nb S) (x : Int32) : ∀ (n i : Nat), i ≤ nv S → nv S < i + n → F_X9_told_16 n 88 (nI b) x (nI (cntN (fun v => hasB S v b) i)) (nI i) (md X I A Y) = some (sp_told S (nI b) x)
  | 0, i, h1, h2 => by omega
  | n + 1, i, h1, h2 => by
    have hn := w.2.2.1.1
    have hn2 := w.2.2.2.1
    rw [F_X9_told_16]
    simp only [md_gi6, Option.bind_some, R.2.2.2.1]
    by_cases hc : nv S ≤ i
    · have e : i = nv S := by omega
      rw [if_pos (nI_le hc (by omega)), e]
      unfold sp_told
      rw [if_pos (vd_nI hb (by omega)), cl_nI (by omega)]
      simp only [md_gr3, md_gr5, Option.bind_some, A3 w R hb, A5 w R hb, one_spec, oneI_b, F_X9_told_85]
      repeat' split
      all_goals rfl
    · rw [if_neg (nI_ge (by omega) (by omega))]
      simp only [has_spec w R (show i < nv S by omega) (show b < 200 by omega), Option.bind_some, one_spec, oneI_b, nI_add, lit]
      exact told_loop w R hb x n (i + 1) (by omega) (by omega)
theorem m_told (w : WF S) (R : RM S I A) (b x : Int32) : F_X9_told 88 b x (md X I A Y) = some (sp_told S b x) := by
  by_cases h : vd (nb S) b
  · obtain ⟨k, hk, rfl⟩ := nI_of_toInt h.1 h.2
    simp only [F_X9_told, F_X9_told_b, md_obj, Option.bind_some, noB_t w R h, if_true]
    have hn2 := w.2.2.2.1
    exact told_loop w R hk x am_F 0 (by omega) (by show _ < 0 + 100000; omega)
  · unfold sp_told
    rw [if_neg h]
    simp only [F_X9_told, F_X9_told_b, md_obj, Option.bind_some, noB_f w R h, if_neg i1ne0]
def sp_count (S : sS) (x : Int32) : Int32 := if x = 0 then nI (nd S) else if x = 1 then nI (nv S) else if x = 2 then nI (nb S) else if x = 3 then nI (cntN (tn S) (nb S)) else if x = 4 then nI (np S) else if x = 5 then nI (sumN (ln S) (nb S)) else if x = 6 then nI (sumN (plc S) (nv S)) else -100002
theorem count_loop2 (w : WF S) (R : RM S I A) (x : Int32) : ∀ (n i : Nat), i ≤ nv S → nv S < i + n → F_X9_count_51 n 88 x (nI (cntN (tn S) (nb S))) (nI (sumN (ln S) (nb S))) (nI (sumN (plc S) i)) (nI i) (md X I A Y) = some (sp_count S x)
  | 0, i, h1, h2 => by omega
  | n + 1, i, h1, h2 => by
    have hn2 := w.2.2.2.1
    rw [F_X9_count_51]
    simp only [md_gi6, Option.bind_some, R.2.2.2.1]
    by_cases hc : nv S ≤ i
    · have e : i = nv S := by omega
      rw [if_pos (nI_le hc (by omega)), e]
      unfold sp_count
      simp only [md_gi0, md_gi2, md_gi39, Option.bind_some, R.1.1, R.2.1.1, R.2.2.1.1]
      repeat' split
      all_goals rfl
    · rw [if_neg (nI_ge (by omega) (by omega))]
      simp only [placesOf_spec w R (show i < nv S by omega), Option.bind_some, nI_add, lit]
      exact count_loop2 w R x n (i + 1) (by omega) (by omega)
theorem count_loop1 (w : WF S) (R : RM S I A) (x : Int32) : ∀ (n i : Nat), i ≤ nb S → nb S < i + n → F_X9_count_10 n 88 x (nI (cntN (tn S) i)) (nI (sumN (ln S) i)) (nI 0) (nI i) (md X I A Y) = some (sp_count S x)
  | 0, i, h1, h2 => by omega
  | n + 1, i, h1, h2 => by
    have hn := w.2.2.1.1
    have hn2 := w.2.2.2.1
    rw [F_X9_count_10]
    simp only [md_gi2, Option.bind_some, R.2.2.1.1]
    by_cases hc : nb S ≤ i
    · have e : i = nb S := by omega
      rw [if_pos (nI_le hc (by omega)), e]
      exact count_loop2 w R x am_F 0 (by omega) (by show _ < 0 + 100000; omega)
    · rw [if_neg (nI_ge (by omega) (by omega))]
      have hi : i < nb S := by omega
      simp only [md_gr3, md_gr5, A3 w R hi, A5 w R hi, one_spec, oneI_b, Option.bind_some, nI_add, lit]
      exact count_loop1 w R x n (i + 1) (by omega) (by omega)
theorem m_count (w : WF S) (R : RM S I A) (x : Int32) : F_X9_count 88 x (md X I A Y) = some (sp_count S x) := by
  simp only [F_X9_count, F_X9_count_b, md_obj, Option.bind_some]
  have hn := w.2.2.1.1
  exact count_loop1 w R x am_F 0 (by omega) (by show _ < 0 + 100000; omega)
def sp_share (S : sS) (v u : Int32) : Int32 := if vd (nv S) v ∧ vd (nv S) u then nI (cntN (fun b => hasB S v.toNatClampNeg b && hasB S u.toNatClampNeg b) (nb S)) else -100001
theorem share_loop (w : WF S) (R : RM S I A) {v u : Nat} (hv : v < nv S) (hu : u < nv S) : ∀ (n i : Nat), i ≤ nb S → nb S < i + n → F_X9_share_24 n 88 (nI v) (nI u) (nI (cntN (fun b => hasB S v b && hasB S u b) i)) (nI i) (md X I A Y) = some (nI (cntN (fun b => hasB S v b && hasB S u b) (nb S)))
  | 0, i, h1, h2 => by omega
  | n + 1, i, h1, h2 => by
    have hn := w.2.2.1.1
    rw [F_X9_share_24]
    simp only [md_gi2, Option.bind_some, R.2.2.1.1]
    by_cases hc : nb S ≤ i
    · have e : i = nb S := by omega
      rw [if_pos (nI_le hc (by omega)), e]
    · rw [if_neg (nI_ge (by omega) (by omega))]
      have ih := share_loop w R hv hu n (i + 1) (by omega) (by omega)
      simp only [has_spec w R hv (show i < 200 by omega), has_spec w R hu (show i < 200 by omega), Option.bind_some, bI_0, F_X9_share_58, F_X9_share_59, one_spec, oneI_z, oneI_1, nI_add]
      simp only [lit, nI_add]
      have ea : cntN (fun b => hasB S v b && hasB S u b) (i + 1) = cntN (fun b => hasB S v b && hasB S u b) i + bN (hasB S v i && hasB S u i) := rfl
      rw [ea] at ih
      cases h3 : hasB S v i <;> cases h4 : hasB S u i <;> rw [h3, h4] at ih <;> simpa [bN, oneI] using ih
theorem m_share (w : WF S) (R : RM S I A) (v u : Int32) : F_X9_share 88 v u (md X I A Y) = some (sp_share S v u) := by
  unfold sp_share
  by_cases h : vd (nv S) v
  · obtain ⟨k, hk, rfl⟩ := nI_of_toInt h.1 h.2
    by_cases h2 : vd (nv S) u
    · obtain ⟨j, hj, rfl⟩ := nI_of_toInt h2.1 h2.2
      have hn := w.2.2.1.1
      have hn2 := w.2.2.2.1
      rw [if_pos ⟨h, h2⟩, cl_nI (by omega), cl_nI (by omega)]
      simp only [F_X9_share, F_X9_share_b, md_obj, Option.bind_some, noV_t w R h, noV_t w R h2, if_true]
      exact share_loop w R hk hj am_F 0 (by omega) (by show _ < 0 + 100000; omega)
    · rw [if_neg (fun q => h2 q.2)]
      simp only [F_X9_share, F_X9_share_b, md_obj, Option.bind_some, noV_t w R h, noV_f w R h2, if_true, if_neg i1ne0, F_X9_share_16]
  · rw [if_neg (fun q => h q.1)]
    simp only [F_X9_share, F_X9_share_b, md_obj, Option.bind_some, noV_f w R h, if_neg i1ne0, F_X9_share_16]
/-! often, entropy -/
def oft (S : sS) (b s : Nat) : Nat := cntN (fun k => sg S b k == s) (ln S b)
theorem often_loop (w : WF S) (R : RM S I A) {b s : Nat} (hb : b < nb S) (hs : s < 2 ^ 31) : ∀ (n i : Nat), i ≤ ln S b → ln S b < i + n → F_X9_often_5 n 88 (nI b) (nI s) (nI (cntN (fun k => sg S b k == s) i)) (nI i) (md X I A Y) = some (nI (oft S b s))
  | 0, i, h1, h2 => by omega
  | n + 1, i, h1, h2 => by
    have hl := (w.2.2.1.2 b hb)
    rw [F_X9_often_5]
    simp only [md_gr3, Option.bind_some, A3 w R hb]
    by_cases hc : ln S b ≤ i
    · have e : i = ln S b := by omega
      rw [if_pos (nI_le hc (by omega)), e]
      rfl
    · rw [if_neg (nI_ge (by omega) (by omega))]
      have hi : i < ln S b := by omega
      have h16 := hl.2 i hi
      have ih := often_loop w R hb hs n (i + 1) (by omega) (by omega)
      have ea : cntN (fun k => sg S b k == s) (i + 1) = cntN (fun k => sg S b k == s) i + bN (sg S b i == s) := rfl
      rw [ea] at ih
      simp only [A4 w R hb hi, Option.bind_some, nI_eq (show sg S b i < 2 ^ 31 by omega) hs, F_X9_often_33, one_spec, oneI_z, oneI_1, nI_add]
      simp only [lit, nI_add]
      by_cases he : sg S b i = s
      · rw [if_pos he]; rw [he] at ih; simpa [bN, oneI] using ih
      · have : (sg S b i == s) = false := by simpa using he
        rw [if_neg he]; rw [this] at ih; simpa [bN, oneI] using ih
theorem often_spec (w : WF S) (R : RM S I A) {b s : Nat} (hb : b < nb S) (hs : s < 2 ^ 31) : F_X9_often 88 (nI b) (nI s) (md X I A Y) = some (nI (oft S b s)) := by
  simp only [F_X9_often, F_X9_often_b, md_obj, Option.bind_some]
  have hl := (w.2.2.1.2 b hb).1
  exact often_loop w R hb hs am_F 0 (by omega) (by show _ < 0 + 100000; omega)
def sp_entropy (S : sS) (b k : Int32) : Int32 := if vd (nb S) b then (if -1 ≤ k.toInt ∧ k.toInt ≤ 15 then (if tn S b.toNatClampNeg = true then -100005 else if 0 ≤ k then nI (oft S b.toNatClampNeg k.toNatClampNeg) else nI (ln S b.toNatClampNeg)) else -100002) else -100001
theorem m_entropy (w : WF S) (R : RM S I A) (b k : Int32) : F_X9_entropy 88 b k (md X I A Y) = some (sp_entropy S b k) := by
  unfold sp_entropy
  by_cases h : vd (nb S) b
  · rw [if_pos h]
    obtain ⟨j, hj, rfl⟩ := nI_of_toInt h.1 h.2
    have hn := w.2.2.1.1
    rw [cl_nI (show j < 2 ^ 31 by omega)]
    simp only [F_X9_entropy, F_X9_entropy_b, F_X9_entropy_61, md_obj, Option.bind_some, noB_t w R h, if_true, in_spec, Int32.toInt_toInt64]
    rw [show (-1 : Int64).toInt = -1 from rfl, show (15 : Int64).toInt = 15 from rfl]
    by_cases h2 : -1 ≤ k.toInt ∧ k.toInt ≤ 15
    · rw [if_pos h2, if_neg i1ne0, if_pos h2]
      simp only [md_gr3, md_gr5, A5 w R hj, A3 w R hj, Option.bind_some, bI_0]
      cases ht : tn S j with
      | true => rfl
      | false =>
        rw [if_pos rfl, if_neg (show ¬ false = true by decide)]
        by_cases h3 : 0 ≤ k
        · rw [if_pos h3, if_pos h3]
          have h4 : 0 ≤ k.toInt := by rw [Int32.le_iff_toInt_le, Int32.toInt_zero] at h3; exact h3
          obtain ⟨s, hs, rfl⟩ := nI_of_toInt (n := 16) h4 (by omega)
          rw [often_spec w R hj (by omega), cl_nI (by omega)]
          rfl
        · rw [if_neg h3, if_neg h3]
    · rw [if_neg h2, if_pos rfl, if_neg h2]
  · rw [if_neg h]
    simp only [F_X9_entropy, F_X9_entropy_b, md_obj, Option.bind_some, noB_f w R h, if_neg i1ne0]
/-! tear -/
def sp_tear (S : sS) (b : Int32) : Int32 × sS := if vd (nb S) b then (if tn S b.toNatClampNeg = true then (-100003, S) else (1, S_t S (fun q => if q = b.toNatClampNeg then true else tn S q))) else (-100001, S)
theorem m_tear (w : WF S) (R : RM S I A) (b : Int32) : ∃ A', F_X9_tear 88 b (md X I A Y) = some ((sp_tear S b).1, md X I A' Y) ∧ RM (sp_tear S b).2 I A' := by
  unfold sp_tear
  by_cases h : vd (nb S) b
  · rw [if_pos h]
    obtain ⟨j, hj, rfl⟩ := nI_of_toInt h.1 h.2
    have hn := w.2.2.1.1
    rw [cl_nI (show j < 2 ^ 31 by omega)]
    simp only [F_X9_tear, F_X9_tear_b, md_obj, Option.bind_some, noB_t w R h, if_true, md_gr5, A5 w R hj, bI_0]
    cases ht : tn S j with
    | true => exact ⟨A, rfl, R⟩
    | false =>
      refine ⟨upA A 5 j 1, ?_, ?_⟩
      · simp only [if_true, md_zs5, ix_nI (show j < 200 by omega) (by decide), Option.bind_some]
        rfl
      · refine ⟨R.1, R.2.1, ⟨R.2.2.1.1, fun q hq => ⟨(R.2.2.1.2 q hq).1, (R.2.2.1.2 q hq).2.1, ?_⟩⟩, R.2.2.2⟩
        show upd (A 5) j 1 q = bI (if q = j then true else tn S q)
        unfold upd
        by_cases he : q = j
        · rw [if_pos he, if_pos he]; rfl
        · rw [if_neg he, if_neg he]; exact (R.2.2.1.2 q hq).2.2
  · rw [if_neg h]
    refine ⟨A, ?_, R⟩
    simp only [F_X9_tear, F_X9_tear_b, md_obj, Option.bind_some, noB_f w R h, if_neg i1ne0]
/-! sums -/
def sp_sums (S : sS) (v x k : Int32) : Int32 := if vd (nv S) v then (if (0 ≤ x.toInt ∧ x.toInt ≤ 1) ∧ (0 ≤ k.toInt ∧ k.toInt ≤ 23) then (if x = 0 then nI (s1 S v.toNatClampNeg k.toNatClampNeg) else nI (s2 S v.toNatClampNeg k.toNatClampNeg)) else -100002) else -100001
theorem m_sums (w : WF S) (R : RM S I A) (v x k : Int32) : F_X9_sums 88 v x k (md X I A Y) = some (sp_sums S v x k) := by
  unfold sp_sums
  by_cases h : vd (nv S) v
  · rw [if_pos h]
    obtain ⟨j, hj, rfl⟩ := nI_of_toInt h.1 h.2
    have hn := w.2.2.2.1
    rw [cl_nI (show j < 2 ^ 31 by omega)]
    simp only [F_X9_sums, F_X9_sums_b, F_X9_sums_33, F_X9_sums_65, md_obj, Option.bind_some, noV_t w R h, if_true, in_spec, Int32.toInt_toInt64]
    rw [show (0 : Int64).toInt = 0 from rfl, show (1 : Int64).toInt = 1 from rfl, show (23 : Int64).toInt = 23 from rfl]
    by_cases h2 : 0 ≤ x.toInt ∧ x.toInt ≤ 1
    · rw [if_pos h2, if_neg i1ne0]
      by_cases h3 : 0 ≤ k.toInt ∧ k.toInt ≤ 23
      · rw [if_pos h3, if_neg i1ne0, if_pos (show (0 ≤ x.toInt ∧ x.toInt ≤ 1) ∧ (0 ≤ k.toInt ∧ k.toInt ≤ 23) from ⟨h2, h3⟩)]
        obtain ⟨q, hq, rfl⟩ := nI_of_toInt (n := 24) h3.1 (by omega)
        have hs := (R.2.2.2.2 j hj).2.2.2.2 q hq
        have e : (24 : Int32) * nI j + nI q = nI (24 * j + q) := by rw [lit, nI_mulN, nI_add]
        simp only [md_gr11, md_gr12, md_il11, md_il12, Option.bind_some, e, ix_nI (show 24 * j + q < 720 by omega) (by decide), hs.1, hs.2, cl_nI (show q < 2 ^ 31 by omega)]
        by_cases hx0 : x = 0
        · rw [if_pos hx0, if_pos hx0]
        · rw [if_neg hx0, if_neg hx0]
      · rw [if_neg h3, if_pos rfl, if_neg (fun q => h3 q.2)]
    · rw [if_neg h2, if_pos rfl, if_neg (fun q => h2 q.1)]
  · rw [if_neg h]
    simp only [F_X9_sums, F_X9_sums_b, md_obj, Option.bind_some, noV_f w R h, if_neg i1ne0]
/-! sign, clear -/
def sp_clear (S : sS) : Int32 × sS := (nI (np S), S_p S 0 (pt S))
theorem WF_clear (w : WF S) : WF (sp_clear S).2 := ⟨w.1, ⟨by show 0 ≤ 12; omega, fun j hj => by cases hj⟩, w.2.2⟩
theorem m_clear (w : WF S) (R : RM S I A) : ∃ I', F_X9_clear 88 (md X I A Y) = some ((sp_clear S).1, md X I' A Y) ∧ RM (sp_clear S).2 I' A := by
  refine ⟨upd I 39 0, ?_, R.1, ⟨rfl, fun j hj => by cases hj⟩, R.2.2⟩
  simp only [F_X9_clear, F_X9_clear_b, md_obj, md_gi39, md_pi39, Option.bind_some, R.2.1.1, sp_clear]
def sp_sign (S : sS) (s : Int32) : Int32 × sS := if 1 ≤ s.toInt ∧ s.toInt ≤ 65535 then (if np S = 12 then (-100004, S) else (nI (np S + 1), S_p S (np S + 1) (fun j => if j = np S then s.toNatClampNeg else pt S j))) else (-100002, S)
theorem WF_sign (w : WF S) (s : Int32) : WF (sp_sign S s).2 := by
  unfold sp_sign
  by_cases h : 1 ≤ s.toInt ∧ s.toInt ≤ 65535
  · rw [if_pos h]
    by_cases h2 : np S = 12
    · rw [if_pos h2]; exact w
    · rw [if_neg h2]
      obtain ⟨k, hk, rfl⟩ := nI_of_toInt (n := 65536) (v := s) (by omega) (by omega)
      rw [nI_toInt (by omega)] at h
      refine ⟨w.1, ⟨by have := w.2.1.1; show np S + 1 ≤ 12; omega, fun j hj => ?_⟩, w.2.2⟩
      show 1 ≤ (if j = np S then _ else _) ∧ (if j = np S then _ else _) ≤ 65535
      by_cases he : j = np S
      · rw [if_pos he, cl_nI (by omega)]; omega
      · rw [if_neg he]; exact w.2.1.2 j (by have : j < np S + 1 := hj; omega)
  · rw [if_neg h]; exact w
theorem m_sign (w : WF S) (R : RM S I A) (s : Int32) : ∃ I' A', F_X9_sign_ 88 s (md X I A Y) = some ((sp_sign S s).1, md X I' A' Y) ∧ RM (sp_sign S s).2 I' A' := by
  unfold sp_sign
  simp only [F_X9_sign_, F_X9_sign__b, md_obj, Option.bind_some, in_spec, Int32.toInt_toInt64]
  rw [show (1 : Int64).toInt = 1 from rfl, show (65535 : Int64).toInt = 65535 from rfl]
  by_cases h : 1 ≤ s.toInt ∧ s.toInt ≤ 65535
  · rw [if_pos h, if_neg i1ne0, if_pos h]
    have hp := w.2.1.1
    simp only [md_gi39, Option.bind_some, R.2.1.1]
    have e12 : (nI (np S) = (12 : Int32)) ↔ np S = 12 := by rw [lit, nI_eq (by omega) (by decide)]
    by_cases h2 : np S = 12
    · rw [if_pos (e12.mpr h2), if_pos h2]
      exact ⟨I, A, rfl, R⟩
    · rw [if_neg (fun q => h2 (e12.mp q)), if_neg h2]
      obtain ⟨k, hk, rfl⟩ := nI_of_toInt (n := 65536) (v := s) (by omega) (by omega)
      refine ⟨upd I 39 (nI (np S + 1)), upA A 40 (np S) (nI k), ?_, R.1, ⟨rfl, fun j hj => ?_⟩, R.2.2⟩
      · have e : upd I 39 (nI (np S + 1)) 39 = nI (np S + 1) := rfl
        simp only [md_gr40, md_is40, md_gi39, md_pi39, Option.bind_some, ix_nI (show np S < 12 by omega) (by decide), R.2.1.1, lit, nI_add, e]
      · show upd (A 40) (np S) (nI k) j = nI (if j = np S then _ else _)
        rw [cl_nI (by omega)]
        unfold upd
        by_cases he : j = np S
        · rw [if_pos he, if_pos he]
        · rw [if_neg he, if_neg he]; exact R.2.1.2 j (by have : j < np S + 1 := hj; omega)
  · rw [if_neg h, if_pos rfl, if_neg h]
    exact ⟨I, A, rfl, R⟩
end M4
