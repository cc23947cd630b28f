/-! size, time -/
def ChW (A A' : Nat → Nat → Int32) : Prop := ∀ q, 36 ≤ q → q ≤ 38 → A' q = A q
section SM
variable {X : Fin 87 → am_C} {Y : am_H} {S : sS}
theorem mrul_68 {I : Nat → Int32} {A : Nat → Nat → Int32} {n : Nat} {l : List Nat} {R : Nat → List Nat} (M : MU I A l n R) (hn : n ≤ 23) (hR : ∀ j, j < n → (R j).length ≤ 24) : ∀ (q k j c : Nat), j + k = n → k < q → F_X9_sizeBy_68 q 88 (nI (c + (cntN (fun j => decide (0 < (R j).length)) j + sumN (fun j => 5 * (R j).length) j))) (nI j) (md X I A Y) = some (nI (c + (cntN (fun j => decide (0 < (R j).length)) n + sumN (fun j => 5 * (R j).length) n)), md X I A Y)
  | 0, k, j, c, h1, h2 => by omega
  | q + 1, 0, j, c, h1, h2 => by
    rw [F_X9_sizeBy_68, md_gi25, Option.bind_some, M.2.1, if_pos (nI_le (by omega) (by omega)), show j = n by omega]
  | q + 1, k + 1, j, c, h1, h2 => by
    have ih := mrul_68 M hn hR q k (j + 1) c (by omega) (by omega)
    have hle := hR j (by omega)
    rw [show cntN (fun j => decide (0 < (R j).length)) (j + 1) = cntN (fun j => decide (0 < (R j).length)) j + bN (decide (0 < (R j).length)) from rfl, show sumN (fun j => 5 * (R j).length) (j + 1) = sumN (fun j => 5 * (R j).length) j + 5 * (R j).length from rfl] at ih
    rw [F_X9_sizeBy_68, md_gi25, Option.bind_some, M.2.1, if_neg (nI_ge (by omega) (by omega)), md_gr26, Option.bind_some, md_il26, ix_nI (show j < 24 by omega) (by decide), Option.bind_some, Option.bind_some, (M.2.2 j (by omega)).1]
    unfold F_X9_sizeBy_103
    rw [nI_1]
    by_cases c1 : 0 < (R j).length
    · rw [if_neg (nI_nle c1 (by omega)), Option.bind_some, md_il26, ix_nI (show j < 24 by omega) (by decide), Option.bind_some, Option.bind_some, (M.2.2 j (by omega)).1, show (5 : Int32) = nI 5 from rfl, nI_mulN, nI_1, nI_add]
      rw [decide_eq_true c1] at ih
      rw [show c + (cntN (fun j => decide (0 < (R j).length)) j + sumN (fun j => 5 * (R j).length) j) + (5 * (R j).length + 1) = c + (cntN (fun j => decide (0 < (R j).length)) j + bN true + (sumN (fun j => 5 * (R j).length) j + 5 * (R j).length)) by show _ = c + (cntN _ j + 1 + _); omega]
      exact ih
    · rw [if_pos (show nI (R j).length ≤ 0 by rw [show (R j).length = 0 by omega]; decide), show (0 : Int32) = nI 0 from rfl, nI_add]
      rw [decide_eq_false c1] at ih
      rw [show c + (cntN (fun j => decide (0 < (R j).length)) j + sumN (fun j => 5 * (R j).length) j) + 0 = c + (cntN (fun j => decide (0 < (R j).length)) j + bN false + (sumN (fun j => 5 * (R j).length) j + 5 * (R j).length)) by show _ = c + (cntN _ j + 0 + _); omega]
      exact ih
theorem mtur_133 {I : Nat → Int32} {A : Nat → Nat → Int32} (w : WF S) (R : RM S I A) {b : Nat} {g : Nat → Nat} (hb : b < nb S) (hg : ∀ j, j < ln S b → A 33 j = nI (g j) ∧ g j < 16) : ∀ (q k i c : Nat), i + k = ln S b → k < q → F_X9_sizeBy_133 q 88 (nI b) (nI (c + sumN (fun i => 1 + hlv 5 (g i + 1)) i)) (nI i) (md X I A Y) = some (nI (c + sumN (fun i => 1 + hlv 5 (g i + 1)) (ln S b)), md X I A Y)
  | 0, k, i, c, h1, h2 => by omega
  | q + 1, 0, i, c, h1, h2 => by
    have hl := w.2.2.1.2 b hb
    rw [F_X9_sizeBy_133, md_gr3, Option.bind_some, A3 w R hb, Option.bind_some, if_pos (nI_le (by omega) (by omega)), show i = ln S b by omega]
  | q + 1, k + 1, i, c, h1, h2 => by
    have hl := w.2.2.1.2 b hb
    obtain ⟨g1, g2⟩ := hg i (by omega)
    have ih := mtur_133 w R hb hg q k (i + 1) c (by omega) (by omega)
    rw [show sumN (fun i => 1 + hlv 5 (g i + 1)) (i + 1) = sumN (fun i => 1 + hlv 5 (g i + 1)) i + (1 + hlv 5 (g i + 1)) from rfl, ← Nat.add_assoc, ← Nat.add_assoc] at ih
    rw [F_X9_sizeBy_133, md_gr3, Option.bind_some, A3 w R hb, Option.bind_some, if_neg (nI_ge (by omega) (by omega)), md_gr33, Option.bind_some, md_il33, ix_nI (show i < 24 by omega) (by decide), Option.bind_some, Option.bind_some, g1, nI_1, nI_1, half_loop (K := F_X9_sizeBy_133 q) 5 am_F _ (g i + 1) (by show _ < 32; omega) (by omega) (by show _ < 100000; omega)]
    exact ih
theorem sizeBy_t {I : Nat → Int32} {A : Nat → Nat → Int32} (w : WF S) (R : RM S I A) {b k : Nat} (hb : b < nb S) (hk : k < 5) : ∃ I' A', F_X9_sizeBy 88 (nI b) (nI k) (md X I A Y) = some (nI (Zf (ln S b) (sg S b) k).1, md X I' A' Y) ∧ RM S I' A' ∧ ChW A A' := by
  have hl := w.2.2.1.2 b hb
  unfold F_X9_sizeBy F_X9_sizeBy_b
  rw [md_obj, Option.bind_some]
  match k, hk with
  | 0, _ =>
    rw [if_pos (show nI 0 = 0 from rfl), md_gr3, Option.bind_some, A3 w R hb, Option.bind_some, show (4 : Int32) = nI 4 from rfl, nI_mulN]
    exact ⟨I, A, rfl, R, fun _ _ _ => rfl⟩
  | 1, _ =>
    obtain ⟨I', A', e, i1, i2, i3, i4, i5⟩ := findCuts_t (X := X) (Y := Y) w R hb
    rw [if_neg (show ¬ nI 1 = 0 by decide), if_pos (show nI 1 = 1 from rfl), e, Option.bind_some, md_gr20, Option.bind_some, show (0 : Int32) = nI 0 from rfl, md_il20, ix_nI (show 0 < 25 by omega) (by decide), Option.bind_some, Option.bind_some, i5]
    exact ⟨I', A', rfl, RM_IA R (fun k hk => i1 k (by omega)) (fun q hq => i2 q (by omega) (by omega)), fun q h1 h2 => i2 q (by omega) (by omega)⟩
  | 2, _ =>
    obtain ⟨I', A', e, M, c⟩ := findRules_t (X := X) (Y := Y) w R hb
    obtain ⟨ok, h11⟩ := ruC_ok hl.2 hl.1.2
    have hR2 := (CI_len ok).2
    rw [if_neg (show ¬ nI 2 = 0 by decide), if_neg (show ¬ nI 2 = 1 by decide), if_pos (show nI 2 = 2 from rfl), e, Option.bind_some, md_gi24, Option.bind_some, M.1.1, show (5 : Int32) = nI 5 from rfl, nI_mulN]
    have := mrul_68 (X := X) (Y := Y) M (by omega) (fun j hj => by have := hR2 j hj; omega) am_F (gW (sg S b) (ln S b)).1 0 (5 * (ruC (sg S b) (ln S b)).1.length) (by omega) (by show _ < 100000; omega)
    refine ⟨I', A', ?_, c.rm R, fun q h1 h2 => c.2 q (by omega) (by omega) (by omega)⟩
    refine Eq.trans this ?_
    rw [← Nat.add_assoc]
    rfl
  | 3, _ =>
    obtain ⟨I', A', e, M, c⟩ := code_t (X := X) (Y := Y) w R hb
    rw [if_neg (show ¬ nI 3 = 0 by decide), if_neg (show ¬ nI 3 = 1 by decide), if_neg (show ¬ nI 3 = 2 by decide), if_pos (show nI 3 = 3 from rfl), e, Option.bind_some, md_gi29, Option.bind_some, M.1]
    exact ⟨I', A', rfl, c.rm R, fun q h1 h2 => c.2 q (by omega)⟩
  | 4, _ =>
    obtain ⟨I', A', e, c, g1, g2⟩ := findTurns_t (X := X) (Y := Y) w R hb
    have R' := c.rm R
    rw [if_neg (show ¬ nI 4 = 0 by decide), if_neg (show ¬ nI 4 = 1 by decide), if_neg (show ¬ nI 4 = 2 by decide), if_neg (show ¬ nI 4 = 3 by decide), e, Option.bind_some]
    exact ⟨I', A', mtur_133 w R' (g := tP (sg S b) (ln S b)) hb (fun j hj => ⟨(g2 j hj).2, tP_lt hl.2 hj⟩) am_F (ln S b) 0 5 (by omega) (by show _ < 100000; omega), R', fun q h1 h2 => c.2 q (by omega)⟩
theorem timeBy_t {I : Nat → Int32} {A : Nat → Nat → Int32} (w : WF S) (R : RM S I A) {b k : Nat} (hb : b < nb S) (hk : k < 5) : ∃ I' A', F_X9_timeBy 88 (nI b) (nI k) (md X I A Y) = some (nI (Zf (ln S b) (sg S b) k).2, md X I' A' Y) ∧ RM S I' A' ∧ ChW A A' := by
  have hl := w.2.2.1.2 b hb
  unfold F_X9_timeBy F_X9_timeBy_b
  rw [md_obj, Option.bind_some, md_gr3, Option.bind_some, A3 w R hb, Option.bind_some]
  match k, hk with
  | 0, _ =>
    rw [if_pos (show nI 0 = 0 from rfl)]
    exact ⟨I, A, rfl, R, fun _ _ _ => rfl⟩
  | 1, _ =>
    obtain ⟨I', A', e, i1, i2, i3, i4, i5⟩ := findCuts_t (X := X) (Y := Y) w R hb
    rw [if_neg (show ¬ nI 1 = 0 by decide), if_pos (show nI 1 = 1 from rfl), e, Option.bind_some, md_gi22, Option.bind_some, i3, nI_add]
    exact ⟨I', A', rfl, RM_IA R (fun k hk => i1 k (by omega)) (fun q hq => i2 q (by omega) (by omega)), fun q h1 h2 => i2 q (by omega) (by omega)⟩
  | 2, _ =>
    obtain ⟨I', A', e, M, c⟩ := findRules_t (X := X) (Y := Y) w R hb
    obtain ⟨ok, h11⟩ := ruC_ok hl.2 hl.1.2
    have hR2 := (CI_len ok).2
    rw [if_neg (show ¬ nI 2 = 0 by decide), if_neg (show ¬ nI 2 = 1 by decide), if_pos (show nI 2 = 2 from rfl), e, Option.bind_some, mleft_t M (by omega) (fun j hj => by have := hR2 j hj; omega), Option.bind_some, show (2 : Int32) = nI 2 from rfl, nI_mulN, nI_add]
    exact ⟨I', A', rfl, c.rm R, fun q h1 h2 => c.2 q (by omega) (by omega) (by omega)⟩
  | 3, _ =>
    rw [if_neg (show ¬ nI 3 = 0 by decide), if_neg (show ¬ nI 3 = 1 by decide), if_neg (show ¬ nI 3 = 2 by decide), if_pos (show nI 3 = 3 from rfl), show (6 : Int32) = nI 6 from rfl, nI_mulN]
    exact ⟨I, A, rfl, R, fun _ _ _ => rfl⟩
  | 4, _ =>
    rw [if_neg (show ¬ nI 4 = 0 by decide), if_neg (show ¬ nI 4 = 1 by decide), if_neg (show ¬ nI 4 = 2 by decide), if_neg (show ¬ nI 4 = 3 by decide), show (3 : Int32) = nI 3 from rfl, nI_mulN]
    exact ⟨I, A, rfl, R, fun _ _ _ => rfl⟩
def whyS (S : sS) (b k : Int32) : Int32 := if vd (nb S) b then (if 0 ≤ k.toInt ∧ k.toInt ≤ 4 then (if tn S b.toNatClampNeg = true then -100005 else 0) else -100002) else -100001
def sp_size (S : sS) (b k : Int32) : Int32 := if whyS S b k = 0 then nI (Zf (ln S b.toNatClampNeg) (sg S b.toNatClampNeg) k.toNatClampNeg).1 else whyS S b k
def sp_time (S : sS) (b k : Int32) : Int32 := if whyS S b k = 0 then nI (Zf (ln S b.toNatClampNeg) (sg S b.toNatClampNeg) k.toNatClampNeg).2 else whyS S b k
theorem whyS_0 {b k : Int32} (h : whyS S b k = 0) : vd (nb S) b ∧ (0 ≤ k.toInt ∧ k.toInt ≤ 4) ∧ tn S b.toNatClampNeg = false := by
  unfold whyS at h
  by_cases h1 : vd (nb S) b
  · rw [if_pos h1] at h
    by_cases h2 : 0 ≤ k.toInt ∧ k.toInt ≤ 4
    · rw [if_pos h2] at h
      cases ht : tn S b.toNatClampNeg with
      | true => rw [ht, if_pos rfl] at h; exact absurd h (by decide)
      | false => exact ⟨h1, h2, rfl⟩
    · rw [if_neg h2] at h; exact absurd h (by decide)
  · rw [if_neg h1] at h; exact absurd h (by decide)
theorem mwhy_t {I : Nat → Int32} {A : Nat → Nat → Int32} (w : WF S) (R : RM S I A) (b k : Int32) : F_X9_why 88 b k (md X I A Y) = some (whyS S b k) := by
  unfold F_X9_why F_X9_why_b F_X9_why_45 whyS
  rw [md_obj, Option.bind_some]
  by_cases h1 : vd (nb S) b
  · obtain ⟨j, hj, rfl⟩ := nI_of_toInt h1.1 h1.2
    have hn := w.2.2.1.1
    rw [noB_t w R h1, Option.bind_some, if_pos rfl, if_pos h1, in_spec, Option.bind_some, Int32.toInt_toInt64, show (0 : Int64).toInt = 0 from rfl, show (4 : Int64).toInt = 4 from rfl, cl_nI (show j < 2 ^ 31 by omega)]
    by_cases h2 : 0 ≤ k.toInt ∧ k.toInt ≤ 4
    · rw [if_pos h2, if_neg i1ne0, if_pos h2, md_gr5, Option.bind_some, A5 w R hj, Option.bind_some]
      cases tn S j <;> rfl
    · rw [if_neg h2, if_pos rfl, if_neg h2]
  · rw [noB_f w R h1, Option.bind_some, if_neg i1ne0, if_neg h1]
theorem m_size {I : Nat → Int32} {A : Nat → Nat → Int32} (w : WF S) (R : RM S I A) (b k : Int32) : ∃ I' A', F_X9_size 88 b k (md X I A Y) = some (sp_size S b k, md X I' A' Y) ∧ RM S I' A' := by
  unfold F_X9_size F_X9_size_b F_X9_size_21 sp_size
  rw [md_obj, Option.bind_some, mwhy_t w R, Option.bind_some]
  by_cases h : whyS S b k = 0
  · obtain ⟨h1, h2, h3⟩ := whyS_0 h
    obtain ⟨j, hj, rfl⟩ := nI_of_toInt h1.1 h1.2
    obtain ⟨z, hz, rfl⟩ := nI_of_toInt (n := 5) h2.1 (by omega)
    have hn := w.2.2.1.1
    obtain ⟨I', A', e, R', -⟩ := sizeBy_t (X := X) (Y := Y) w R hj hz
    rw [if_pos h, if_pos h, e, Option.bind_some, cl_nI (by omega), cl_nI (by omega)]
    exact ⟨I', A', rfl, R'⟩
  · rw [if_neg h, if_neg h]
    exact ⟨I, A, rfl, R⟩
theorem m_time {I : Nat → Int32} {A : Nat → Nat → Int32} (w : WF S) (R : RM S I A) (b k : Int32) : ∃ I' A', F_X9_time 88 b k (md X I A Y) = some (sp_time S b k, md X I' A' Y) ∧ RM S I' A' := by
  unfold F_X9_time F_X9_time_b F_X9_time_21 sp_time
  rw [md_obj, Option.bind_some, mwhy_t w R, Option.bind_some]
  by_cases h : whyS S b k = 0
  · obtain ⟨h1, h2, h3⟩ := whyS_0 h
    obtain ⟨j, hj, rfl⟩ := nI_of_toInt h1.1 h1.2
    obtain ⟨z, hz, rfl⟩ := nI_of_toInt (n := 5) h2.1 (by omega)
    have hn := w.2.2.1.1
    obtain ⟨I', A', e, R', -⟩ := timeBy_t (X := X) (Y := Y) w R hj hz
    rw [if_pos h, if_pos h, e, Option.bind_some, cl_nI (by omega), cl_nI (by omega)]
    exact ⟨I', A', rfl, R'⟩
  · rw [if_neg h, if_neg h]
    exact ⟨I, A, rfl, R⟩
end SM
section SX
variable {S : sS} {pb pv : Nat → Nat} {h : am_H}
theorem xwhy_t (w : WF S) (C : RX Zf S pb pv h) (b k : Int32) : ∃ x, F_X8_blockOf 1 b h = some x ∧ F_X8_refusalOfKind x k h = some (whyS S b k) ∧ (x = 0 ↔ ¬ vd (nb S) b) ∧ (vd (nb S) b → x = rD (pb b.toNatClampNeg)) := by
  have a0 : (k < (0 : Int32)) ↔ k.toInt < 0 := (lt_lit (x := k) (n := 0) (by decide)).1
  have a1 : (k < (5 : Int32)) ↔ k.toInt < 5 := (lt_lit (x := k) (n := 5) (by decide)).1
  by_cases h1 : vd (nb S) b
  · obtain ⟨j, hj, rfl⟩ := nI_of_toInt h1.1 h1.2
    have hn := w.2.2.1.1
    have B := C.2.2.2.2.2.1 j hj
    refine ⟨rD (pb j), blockOf_t w C hj, ?_, ⟨fun z => absurd z (rD_ne _), fun z => absurd h1 z⟩, fun _ => by rw [cl_nI (by omega)]⟩
    unfold F_X8_refusalOfKind F_X8_refusalOfKind_b F_X8_refusalOfKind_16 F_X8_refusalOfKind_32 whyS
    rw [if_neg (rD_ne _), if_pos h1, cl_nI (show j < 2 ^ 31 by omega)]
    by_cases c1 : k.toInt < 0
    · rw [if_pos (a0.mpr c1), if_neg (fun q => by omega)]
    rw [if_neg (fun q => c1 (a0.mp q))]
    by_cases c2 : k.toInt < 5
    · rw [if_pos (a1.mpr c2), if_pos (show 0 ≤ k.toInt ∧ k.toInt ≤ 4 by omega), B.f.2.2.2, Option.bind_some]
      cases tn S j <;> rfl
    · rw [if_neg (fun q => c2 (a1.mp q)), if_neg (fun q => by omega)]
  · refine ⟨0, blockOf_f w C h1, ?_, ⟨fun _ => h1, fun _ => rfl⟩, fun z => absurd z h1⟩
    unfold F_X8_refusalOfKind F_X8_refusalOfKind_b whyS
    rw [if_pos rfl, if_neg h1]
theorem x_size (w : WF S) (C : RX Zf S pb pv h) (b k : Int32) : ∃ h', F_X8_size 1 b k h = some (sp_size S b k, h') ∧ RX Zf S pb pv h' ∧ Fr (fun q => q < 88 ∨ 116 ≤ q) h h' := by
  obtain ⟨x, e1, e2, e3, e4⟩ := xwhy_t w C b k
  unfold F_X8_size F_X8_size_b F_X8_size_22 sp_size
  rw [C.ob, e1, Option.bind_some, e2, Option.bind_some]
  by_cases hw : whyS S b k = 0
  · obtain ⟨h1, h2, h3⟩ := whyS_0 hw
    have hx : x = rD (pb b.toNatClampNeg) := e4 h1
    obtain ⟨j, hj, rfl⟩ := nI_of_toInt h1.1 h1.2
    obtain ⟨z, hz, rfl⟩ := nI_of_toInt (n := 5) h2.1 (by omega)
    have hn := w.2.2.1.1
    rw [cl_nI (show j < 2 ^ 31 by omega)] at hx h3 ⊢
    obtain ⟨h', f, g, e, C', F, W, v⟩ := weigh_t w C hj h3
    refine ⟨h', ?_, C', F.mono (fun q z => by have : 116 ≤ rD (pb j) := by unfold rD; omega
                                              omega)⟩
    have g1 : am_gr 0 1 (rD (pb j)) h' = some (rD (pb j) + 1) := by unfold am_gr; rw [W.1]; rfl
    rw [if_neg (fun z => e3.mp z h1), if_pos hw, if_pos hw, hx, e, Option.bind_some, g1, Option.bind_some, row_at W.2.1 hz, Option.bind_some, (v z hz).1, cl_nI (by omega)]
  · rw [if_neg hw, if_neg hw]
    refine ⟨h, ?_, C, Fr.rf⟩
    split <;> rfl
theorem x_time (w : WF S) (C : RX Zf S pb pv h) (b k : Int32) : ∃ h', F_X8_time 1 b k h = some (sp_time S b k, h') ∧ RX Zf S pb pv h' ∧ Fr (fun q => q < 88 ∨ 116 ≤ q) h h' := by
  obtain ⟨x, e1, e2, e3, e4⟩ := xwhy_t w C b k
  unfold F_X8_time F_X8_time_b F_X8_time_22 sp_time
  rw [C.ob, e1, Option.bind_some, e2, Option.bind_some]
  by_cases hw : whyS S b k = 0
  · obtain ⟨h1, h2, h3⟩ := whyS_0 hw
    have hx : x = rD (pb b.toNatClampNeg) := e4 h1
    obtain ⟨j, hj, rfl⟩ := nI_of_toInt h1.1 h1.2
    obtain ⟨z, hz, rfl⟩ := nI_of_toInt (n := 5) h2.1 (by omega)
    have hn := w.2.2.1.1
    rw [cl_nI (show j < 2 ^ 31 by omega)] at hx h3 ⊢
    obtain ⟨h', f, g, e, C', F, W, v⟩ := weigh_t w C hj h3
    refine ⟨h', ?_, C', F.mono (fun q z => by have : 116 ≤ rD (pb j) := by unfold rD; omega
                                              omega)⟩
    have g1 : am_gr 0 2 (rD (pb j)) h' = some (rD (pb j) + 3) := by unfold am_gr; rw [W.1]; rfl
    rw [if_neg (fun z => e3.mp z h1), if_pos hw, if_pos hw, hx, e, Option.bind_some, g1, Option.bind_some, row_at W.2.2 hz, Option.bind_some, (v z hz).2, cl_nI (by omega)]
  · rw [if_neg hw, if_neg hw]
    refine ⟨h, ?_, C, Fr.rf⟩
    split <;> rfl
theorem o_size : am_op_size (Inv Zf) := by
  rintro h a0 a1 ⟨S, pb, pv, X, I, A, Y, w, R, rfl, C, hn⟩
  obtain ⟨h1, e, C', F⟩ := x_size w C a0 a1
  obtain ⟨h2, e2, hI⟩ := Inv.fin (f := F_X9_size 88 a0 a1) (r := sp_size S a0 a1) w (fun q q1 q2 => F.2.2 q (by omega)) C' (by rw [F.2.1]; exact hn) (fun X Y => m_size w R a0 a1)
  exact ⟨_, h1, h2, e, e2, hI⟩
theorem o_time : am_op_time (Inv Zf) := by
  rintro h a0 a1 ⟨S, pb, pv, X, I, A, Y, w, R, rfl, C, hn⟩
  obtain ⟨h1, e, C', F⟩ := x_time w C a0 a1
  obtain ⟨h2, e2, hI⟩ := Inv.fin (f := F_X9_time 88 a0 a1) (r := sp_time S a0 a1) w (fun q q1 q2 => F.2.2 q (by omega)) C' (by rw [F.2.1]; exact hn) (fun X Y => m_time w R a0 a1)
  exact ⟨_, h1, h2, e, e2, hI⟩
end SX
