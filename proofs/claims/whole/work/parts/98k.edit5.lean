/-! strike and put of the reference -/
section EM2
variable {X : Fin 87 → am_C} {Y : am_H} {S : sS}
theorem strike_104 {S1 : sS} {s : Nat → Nat} {v i n p : Nat} (hp : p < n) (hn : n ≤ 24) : ∀ (q k j : Nat) (I : Nat → Int32) (A : Nat → Nat → Int32), RM S1 I A → I 14 = nI n → p ≤ j → j + 1 + k = n → k < q → (∀ i, i < j → A 13 i = nI (gK s p i)) → (∀ i, j ≤ i → i < n → A 13 i = nI (s i)) →
    ∃ A', F_X9_strike_104 q 88 (nI v) (nI i) (nI j) (md X I A Y) = (if nI (n - 1) ≤ 0 then F_X9_strike_158 88 (nI v) (nI i) (md X (upd I 14 (nI (n - 1))) A' Y) else (F_X9_lay 88 (md X (upd I 14 (nI (n - 1))) A' Y)).bind fun h7 => F_X9_strike_158 88 (nI v) (nI i) h7) ∧ RM S1 I A' ∧ (∀ i, i < n - 1 → A' 13 i = nI (gK s p i)) ∧ ∀ q, q ≠ 13 → A' q = A q
  | 0, k, j, I, A, R, h0, h1, h2, h3, h4, h5 => by omega
  | q + 1, 0, j, I, A, R, h0, h1, h2, h3, h4, h5 => by
    refine ⟨A, ?_, R, fun i hi => h4 i (by omega), fun _ _ => rfl⟩
    rw [F_X9_strike_104, md_gi14, Option.bind_some, nI_1, h0, if_pos (nI_le (by omega) (by omega)), Option.bind_some, show nI n - 1 = nI (n - 1) by rw [show (1 : Int32) = nI 1 from rfl, nI_subN (by omega)], md_pi14, Option.bind_some, md_gi14, Option.bind_some, upd_self]
  | q + 1, k + 1, j, I, A, R, h0, h1, h2, h3, h4, h5 => by
    have R1 : RM S1 I (upA A 13 j (nI (s (j + 1)))) := RM_IA R (fun _ _ => rfl) (fun q hq => upA_ne (by omega))
    obtain ⟨A', e, R', M', g'⟩ := strike_104 (S1 := S1) (s := s) (v := v) (i := i) hp hn q k (j + 1) I _ R1 h0 (by omega) (by omega) (by omega) (fun i hi => by
      rw [upA_self]
      by_cases z : i = j
      · rw [z, upd_self]; unfold gK; rw [if_neg (by omega)]
      · rw [upd_ne z]; exact h4 i (by omega)) (fun i hi hi' => by rw [upA_self, upd_ne (by omega)]; exact h5 i (by omega) hi')
    refine ⟨A', ?_, R', M', fun q hq => (g' q hq).trans (upA_ne hq)⟩
    rw [F_X9_strike_104, md_gi14, Option.bind_some, nI_1, h0, if_neg (nI_ge (by omega) (by omega)), md_gr13, Option.bind_some, Option.bind_some, md_il13, ix_nI (show j + 1 < 25 by omega) (by decide), Option.bind_some, Option.bind_some, h5 _ (by omega) (by omega), md_is13, ix_nI (show j < 25 by omega) (by decide), Option.bind_some, Option.bind_some]
    exact e
theorem strike_57 {I : Nat → Int32} {A : Nat → Nat → Int32} (w : WF S) (R : RM S I A) {a b k : Nat} (ha : a < nv S) (hb : b < plc S a) (h19 : I 19 = nI (loc S a b).2) (hk : k = kLen (ln S (rw_ S a (loc S a b).1))) : MG X Y (if roomS S k then (if trn S a = 0 then edR S a (loc S a b).1 (ln S (rw_ S a (loc S a b).1) - 1) (gK (sg S (rw_ S a (loc S a b).1)) (loc S a b).2) else (-100005, S)) else (-100004, S)) (F_X9_strike_57 88 (nI a) (nI (loc S a b).1) 88 (nI k) (md X I A Y)) := by
  have ht8 := trn_le w ha
  obtain ⟨l1, l2, l3⟩ := loc_spec hb
  have hbk := (w.2.2.2.2 a ha).1.2 _ l1
  have hr := (w.2.2.2.2 a ha).1.1
  have hl := w.2.2.1.2 _ hbk
  have hk1 : k ≤ 1 := by rw [hk]; unfold kLen; split <;> omega
  unfold F_X9_strike_57
  rw [isFull_t w R (by omega), Option.bind_some]
  by_cases c3 : roomS S k
  · rw [if_pos c3, decide_eq_false (show ¬ ¬ (nv S < 30 ∧ nb S + k ≤ 200) from fun z => z c3), if_pos (show bI false = 0 from rfl), tornIn_spec w R ha, Option.bind_some]
    by_cases c4 : trn S a = 0
    · rw [if_pos c4, if_pos (show nI (trn S a) ≤ 0 by rw [c4]; decide)]
      have c3' := id c3
      obtain ⟨b1, Rb, Pb⟩ := begin_t (X := X) (Y := Y) R
      obtain ⟨I1, A1, t1, R1, P1, -, -, t19⟩ := take_t (X := X) (Y := Y) w Rb (Pb (fun _ => 0)) ha (Nat.zero_le _) (show (loc S a b).1 ≤ rl S a by omega) (by omega)
      obtain ⟨A2, s1, R2, M2, s2⟩ := signs_t (X := X) (Y := Y) w R1 hbk
      have i19 : upd I1 14 (nI (ln S (rw_ S a (loc S a b).1))) 19 = nI (loc S a b).2 := (upd_ne (by decide)).trans (t19.trans ((upd_ne (by decide)).trans ((upd_ne (by decide)).trans h19)))
      obtain ⟨A3, e3, R3, g3, k3⟩ := strike_104 (X := X) (Y := Y) (S1 := S) (s := sg S (rw_ S a (loc S a b).1)) (v := a) (i := (loc S a b).1) l2 hl.1.2 am_F (ln S (rw_ S a (loc S a b).1) - 1 - (loc S a b).2) (loc S a b).2 _ A2 R2 M2.1 (Nat.le_refl _) (by omega) (by show _ < 100000; omega) (fun i hi => by rw [M2.2 i (by omega)]; unfold gK; rw [if_pos hi]) (fun i _ hi => M2.2 i hi)
      rw [Nat.sub_zero, Nat.zero_add] at P1
      have R3' : RM S (upd (upd I1 14 (nI (ln S (rw_ S a (loc S a b).1)))) 14 (nI (ln S (rw_ S a (loc S a b).1) - 1))) A3 := RM_IA R3 (fun k hk => upd_ne (by omega)) (fun _ _ => rfl)
      have N3 : MN (upd (upd I1 14 (nI (ln S (rw_ S a (loc S a b).1)))) 14 (nI (ln S (rw_ S a (loc S a b).1) - 1))) A3 (ln S (rw_ S a (loc S a b).1) - 1) (gK (sg S (rw_ S a (loc S a b).1)) (loc S a b).2) := ⟨upd_self, g3⟩
      have P3 : MP (upd (upd I1 14 (nI (ln S (rw_ S a (loc S a b).1)))) 14 (nI (ln S (rw_ S a (loc S a b).1) - 1))) A3 (ed0 S a (loc S a b).1).2.1 (ed0 S a (loc S a b).1).2.2.1 (ed0 S a (loc S a b).1).2.2.2 := P1.iA ((upd_ne (by decide)).trans (upd_ne (by decide))) ((upd_ne (by decide)).trans (upd_ne (by decide))) ((k3 15 (by decide)).trans (s2 15 (by decide)))
      have M0 := edI_0 w ha c4 (show (loc S a b).1 ≤ rl S a by omega)
      have hg := gK_lt hl.2 l2
      have E : ∀ {I5 : Nat → Int32} {A5 : Nat → Nat → Int32} {k5 : Nat} {s5 : sM}, edI S k5 s5 → RM s5.1 I5 A5 → MP I5 A5 s5.2.1 s5.2.2.1 s5.2.2.2 → s5.2.1 ≤ (loc S a b).1 + 1 → MG X Y (nI (nv S), edE S a (loc S a b).1 s5) (F_X9_strike_158 88 (nI a) (nI (loc S a b).1) (md X I5 A5 Y)) := fun {I5 A5 k5 s5} M5 R5 P5 h5 => by
        obtain ⟨v1, v2, v3⟩ := edI_v M5
        have a7 := A7 (X := X) (Y := Y) M5.1.1 R5 (v := a) (by rw [v1]; exact ha)
        rw [v2] at a7
        unfold F_X9_strike_158
        rw [md_gr7, Option.bind_some, a7, Option.bind_some, nI_1]
        exact end_t (X := X) (Y := Y) (i := (loc S a b).1) (a := (loc S a b).1 + 1) (b := rl S a) w ha c4 c3'.1 M5 R5 P5 (by omega) (by omega) rfl (Or.inl rfl) (by omega)
      rw [b1, Option.bind_some]
      rw [show F_X9_takeBlocks 88 (nI a) 0 (nI (loc S a b).1) (md X (upd (upd I 16 (nI 0)) 17 (nI 0)) A Y) = some (md X I1 A1 Y) from t1, Option.bind_some, A8 w R1 ha l1, Option.bind_some, s1, Option.bind_some, md_gi19, Option.bind_some, i19, e3]
      unfold edR plS
      by_cases z : ln S (rw_ S a (loc S a b).1) - 1 = 0
      · rw [if_pos z, if_pos (show nI (ln S (rw_ S a (loc S a b).1) - 1) ≤ 0 by rw [z]; decide)]
        exact E M0 R3' P3 (by show (loc S a b).1 ≤ _; omega)
      · rw [if_neg z, if_pos (show ln S (rw_ S a (loc S a b).1) - 1 ≤ 24 by omega), if_neg (show ¬ nI (ln S (rw_ S a (loc S a b).1) - 1) ≤ 0 from nI_ge (a := 0) (by omega) (by omega))]
        have hk0 : k = 1 := by rw [hk]; unfold kLen; rw [if_neg (by omega)]
        obtain ⟨I4, A4, e4, R4, P4, -⟩ := lay1_t (X := X) (Y := Y) M0 R3' N3 P3 ⟨by omega, by omega⟩ hg (by show (loc S a b).1 < 9; omega) (by omega)
        have M4 := edI_step M0 (m := ln S (rw_ S a (loc S a b).1) - 1) ⟨by omega, by omega⟩ hg (by omega)
        rw [e4, Option.bind_some]
        exact E M4 R4 P4 (by show (loc S a b).1 + 1 ≤ _; omega)
    · rw [if_neg c4, if_neg (show ¬ nI (trn S a) ≤ 0 from nI_ge (a := 0) (by omega) (by omega))]
      exact MG.no R _
  · rw [if_neg c3, decide_eq_true (show ¬ (nv S < 30 ∧ nb S + k ≤ 200) from c3), if_neg (show ¬ bI true = 0 by decide)]
    exact MG.no R _
theorem m_strike {I : Nat → Int32} {A : Nat → Nat → Int32} (w : WF S) (R : RM S I A) (v p : Int32) : MG X Y (sp_strike S v p) (F_X9_strike 88 v p (md X I A Y)) := by
  unfold sp_strike F_X9_strike F_X9_strike_b F_X9_strike_44
  rw [md_obj, Option.bind_some]
  by_cases c0 : vd (nv S) v
  · obtain ⟨a, ha, rfl⟩ := nI_of_toInt c0.1 c0.2
    have hw := w.2.2.2.1
    have hp := plc_le w ha
    have hnp := noPlace_spec (X := X) (Y := Y) w R ha p 0 (by omega)
    rw [show nI 0 = (0 : Int32) from rfl, Nat.add_zero] at hnp
    rw [cl_nI (by omega), hnp, Option.bind_some]
    by_cases c1 : vd (plc S a) p
    · rw [if_pos (show vd (nv S) (nI a) ∧ vd (plc S a) p from ⟨c0, c1⟩), if_pos c1, if_pos rfl]
      obtain ⟨b, hb, rfl⟩ := nI_of_toInt c1.1 c1.2
      rw [cl_nI (show b < 2 ^ 31 by omega)]
      obtain ⟨l1, l2, l3⟩ := loc_spec hb
      have hbk := (w.2.2.2.2 a ha).1.2 _ l1
      have hl := w.2.2.1.2 _ hbk
      have Rf : RM S (upd (upd I 18 (nI (loc S a b).1)) 19 (nI (loc S a b).2)) A := RM_IA R (fun k hk => (upd_ne (by omega)).trans (upd_ne (by omega))) (fun _ _ => rfl)
      rw [find_spec w R ha hb, Option.bind_some, md_gi18, Option.bind_some, show upd (upd I 18 (nI (loc S a b).1)) 19 (nI (loc S a b).2) 18 = nI (loc S a b).1 from (upd_ne (by decide)).trans upd_self, md_gr3, Option.bind_some, A8 w Rf ha l1, Option.bind_some, A3 w Rf hbk, Option.bind_some]
      have e1 : (nI (ln S (rw_ S a (loc S a b).1)) = (1 : Int32)) ↔ ln S (rw_ S a (loc S a b).1) = 1 := nI_eq (b := 1) (by omega) (by decide)
      by_cases z : ln S (rw_ S a (loc S a b).1) = 1
      · rw [if_pos (e1.mpr z), if_neg (show ¬ (1 : Int32) = 0 by decide)]
        have ek : (0 : Nat) = kLen (ln S (rw_ S a (loc S a b).1)) := by unfold kLen; rw [if_pos z]
        rw [← ek]
        exact strike_57 (k := 0) w Rf ha hb upd_self ek
      · rw [if_neg (fun q => z (e1.mp q)), if_pos rfl]
        have ek : (1 : Nat) = kLen (ln S (rw_ S a (loc S a b).1)) := by unfold kLen; rw [if_neg z]
        rw [← ek]
        exact strike_57 (k := 1) w Rf ha hb upd_self ek
    · rw [if_neg (show ¬ (vd (nv S) (nI a) ∧ vd (plc S a) p) from fun z => c1 z.2), if_neg c1, if_neg (show ¬ (1 : Int32) = 0 by decide)]
      exact MG.no R _
  · rw [noPlace_f w R c0, Option.bind_some, if_neg (show ¬ (1 : Int32) = 0 by decide), if_neg (fun z => c0 z.1)]
    exact MG.no R _
theorem put_212 {S1 : sS} {s : Nat → Nat} {n p y : Nat} {V x4 x5 x7 : Int32} (hp : p ≤ n) (hn : n ≤ 24) : ∀ (q k j : Nat) (I : Nat → Int32) (A : Nat → Nat → Int32), RM S1 I A → I 14 = nI n → j = p + k → j ≤ n → k < q → (∀ i, i < j → A 13 i = nI (s i)) → (∀ i, j < i → i ≤ n → A 13 i = nI (s (i - 1))) →
    ∃ A', F_X9_put_212 q 88 V (nI y) x4 x5 (nI p) x7 (nI j) (md X I A Y) = (if x7 = 0 then (F_X9_lay 88 (md X (upd I 14 (nI (n + 1))) A' Y)).bind fun h7 => F_X9_put_275 88 V x4 x5 h7 else (F_X9_laySplit 88 (md X (upd I 14 (nI (n + 1))) A' Y)).bind fun h8 => F_X9_put_275 88 V x4 x5 h8) ∧ RM S1 I A' ∧ (∀ i, i < n + 1 → A' 13 i = nI (gS s p y 0 i)) ∧ ∀ q, q ≠ 13 → A' q = A q
  | 0, k, j, I, A, R, h0, h1, h2, h3, h4, h5 => by omega
  | q + 1, 0, j, I, A, R, h0, h1, h2, h3, h4, h5 => by
    have ej : j = p := h1
    subst ej
    refine ⟨upA A 13 j (nI y), ?_, RM_IA R (fun _ _ => rfl) (fun q hq => upA_ne (by omega)), fun i hi => ?_, fun q hq => upA_ne hq⟩
    · rw [F_X9_put_212, if_pos (nI_le (Nat.le_refl _) (by omega)), md_gr13, Option.bind_some, md_is13, ix_nI (show j < 25 by omega) (by decide), Option.bind_some, Option.bind_some, md_gi14, Option.bind_some, h0, nI_1, md_pi14, Option.bind_some]
    · rw [upA_self]
      unfold gS
      by_cases z : i = j
      · rw [z, upd_self, if_neg (by omega), if_pos rfl]
      · rw [upd_ne z]
        by_cases z2 : i < j
        · rw [if_pos z2, h4 i z2]
        · rw [if_neg z2, if_neg z, h5 i (by omega) (by omega), Nat.add_zero]
  | q + 1, k + 1, j, I, A, R, h0, h1, h2, h3, h4, h5 => by
    obtain ⟨j', rfl⟩ : ∃ j', j = j' + 1 := ⟨j - 1, by omega⟩
    have R1 : RM S1 I (upA A 13 (j' + 1) (nI (s j'))) := RM_IA R (fun _ _ => rfl) (fun q hq => upA_ne (by omega))
    obtain ⟨A', e, R', M', g'⟩ := put_212 (S1 := S1) (s := s) (y := y) (V := V) (x4 := x4) (x5 := x5) (x7 := x7) hp hn q k j' I _ R1 h0 (by omega) (by omega) (by omega) (fun i hi => by rw [upA_self, upd_ne (by omega)]; exact h4 i (by omega)) (fun i hi hi' => by
      rw [upA_self]
      by_cases z : i = j' + 1
      · rw [z, upd_self]; rfl
      · rw [upd_ne z]; exact h5 i (by omega) hi')
    refine ⟨A', ?_, R', M', fun q hq => (g' q hq).trans (upA_ne hq)⟩
    rw [F_X9_put_212, if_neg (nI_ge (by omega) (by omega)), md_gr13, Option.bind_some, Option.bind_some, pre_nI, md_il13, ix_nI (show j' < 25 by omega) (by decide), Option.bind_some, Option.bind_some, h4 _ (by omega), md_is13, ix_nI (show j' + 1 < 25 by omega) (by decide), Option.bind_some, Option.bind_some, show nI (j' + 1) + (-1 : Int32) = nI j' from nI_neg (b := 1) (by omega)]
    exact e
theorem put_162 {I : Nat → Int32} {A : Nat → Nat → Int32} (w : WF S) (R : RM S I A) {a b y : Nat} {V5 : Int32} (ha : a < nv S) (hb : b ≤ plc S a) (hy : y < 16) (h5 : rl S a = 0 → V5 = -1) (h5' : rl S a ≠ 0 → V5 = nI (ixP S a b)) (c3 : roomS S (kPut (lnP S a b)) ∧ ¬ (lnP S a b = 24 ∧ rl S a = 8)) : MG X Y (if trn S a = 0 then edR S a (ixP S a b) (lnP S a b + 1) (gS (sg S (rw_ S a (ixP S a b))) (ofP S a b) y 0) else (-100005, S)) (F_X9_put_162 88 (nI a) (nI y) (nI (rl S a)) V5 (nI (ofP S a b)) (bI (decide (lnP S a b = 24))) (md X I A Y)) := by
  have ht8 := trn_le w ha
  obtain ⟨p1, p2, p3, p4, p5, p6, p7⟩ := putP w ha hb
  have hr := (w.2.2.2.2 a ha).1.1
  unfold F_X9_put_162 F_X9_put_206
  rw [tornIn_spec w R ha, Option.bind_some]
  by_cases c4 : trn S a = 0
  · rw [if_pos c4, if_pos (show nI (trn S a) ≤ 0 by rw [c4]; decide)]
    obtain ⟨b1, Rb, Pb⟩ := begin_t (X := X) (Y := Y) R
    have T : ∃ I1 A1, F_X9_takeBlocks 88 (nI a) (nI 0) V5 (md X (upd (upd I 16 (nI 0)) 17 (nI 0)) A Y) = some (md X I1 A1 Y) ∧ RM S I1 A1 ∧ MP I1 A1 (ed0 S a (ixP S a b)).2.1 (ed0 S a (ixP S a b)).2.2.1 (ed0 S a (ixP S a b)).2.2.2 := by
      by_cases z : rl S a = 0
      · obtain ⟨q1, q2, q3⟩ := p5 z
        refine ⟨_, A, ?_, Rb, by rw [q1]; exact Pb _⟩
        rw [h5 z]
        unfold F_X9_takeBlocks F_X9_takeBlocks_b
        rw [md_obj, Option.bind_some, show am_F = 99999 + 1 from rfl, F_X9_takeBlocks_3, if_pos (show (-1 : Int32) ≤ nI 0 by decide)]
      · obtain ⟨I1, A1, t1, R1, P1, -⟩ := take_t (X := X) (Y := Y) w Rb (Pb (fun _ => 0)) ha (Nat.zero_le _) p1 (by omega)
        rw [Nat.sub_zero, Nat.zero_add] at P1
        rw [h5' z]
        exact ⟨I1, A1, t1, R1, P1⟩
    obtain ⟨I1, A1, t1, R1, P1⟩ := T
    have R1' : RM S (upd I1 14 (nI 0)) A1 := RM_IA R1 (fun k hk => upd_ne (by omega)) (fun _ _ => rfl)
    have M0 := edI_0 w ha c4 p1
    have hg : ∀ k, k < lnP S a b + 1 → gS (sg S (rw_ S a (ixP S a b))) (ofP S a b) y 0 k < 16 := by
      by_cases z : rl S a = 0
      · obtain ⟨q1, q2, q3⟩ := p5 z
        rw [q2, q3]
        exact fun k hk => by unfold gS; rw [if_neg (by omega), if_pos (by omega)]; exact hy
      · have hbk := (w.2.2.2.2 a ha).1.2 _ (p2 z)
        have hl := w.2.2.1.2 _ hbk
        have e7 := p7 z
        exact fun k hk => gS_lt hl.2 (by omega) hy (by omega) (by omega) k (by omega)
    have hix : ixP S a b < 8 ∧ (lnP S a b = 24 → rl S a < 8) := by
      refine ⟨?_, fun z => ?_⟩
      · by_cases z : rl S a = 0
        · have := (p5 z).1; omega
        · have := p2 z; omega
      · have : ¬ rl S a = 8 := fun q => c3.2 ⟨z, q⟩
        omega
    have G : ∀ {I2 : Nat → Int32} {A2 : Nat → Nat → Int32}, RM S I2 A2 → I2 14 = nI (lnP S a b) → (∀ i, i < lnP S a b → A2 13 i = nI (sg S (rw_ S a (ixP S a b)) i)) → MP I2 A2 (ed0 S a (ixP S a b)).2.1 (ed0 S a (ixP S a b)).2.2.1 (ed0 S a (ixP S a b)).2.2.2 → MG X Y (edR S a (ixP S a b) (lnP S a b + 1) (gS (sg S (rw_ S a (ixP S a b))) (ofP S a b) y 0)) (F_X9_put_212 am_F 88 (nI a) (nI y) (nI (rl S a)) V5 (nI (ofP S a b)) (bI (decide (lnP S a b = 24))) (nI (lnP S a b)) (md X I2 A2 Y)) := fun {I2 A2} R2 h14 h13 P2 => by
      obtain ⟨A3, e3, R3, g3, k3⟩ := put_212 (X := X) (Y := Y) (S1 := S) (s := sg S (rw_ S a (ixP S a b))) (y := y) (V := nI a) (x4 := nI (rl S a)) (x5 := V5) (x7 := bI (decide (lnP S a b = 24))) p3 p4 am_F (lnP S a b - ofP S a b) (lnP S a b) I2 A2 R2 h14 (by omega) (Nat.le_refl _) (by show _ < 100000; omega) h13 (fun i hi hi' => by omega)
      have R3' : RM S (upd I2 14 (nI (lnP S a b + 1))) A3 := RM_IA R3 (fun k hk => upd_ne (by omega)) (fun _ _ => rfl)
      have N3 : MN (upd I2 14 (nI (lnP S a b + 1))) A3 (lnP S a b + 1) (gS (sg S (rw_ S a (ixP S a b))) (ofP S a b) y 0) := ⟨upd_self, g3⟩
      have P3 : MP (upd I2 14 (nI (lnP S a b + 1))) A3 (ed0 S a (ixP S a b)).2.1 (ed0 S a (ixP S a b)).2.2.1 (ed0 S a (ixP S a b)).2.2.2 := P2.iA (upd_ne (by decide)) (upd_ne (by decide)) (k3 15 (by decide))
      have E : ∀ {I5 : Nat → Int32} {A5 : Nat → Nat → Int32} {k5 : Nat} {s5 : sM}, edI S k5 s5 → RM s5.1 I5 A5 → MP I5 A5 s5.2.1 s5.2.2.1 s5.2.2.2 → s5.2.1 + (rl S a - (ixP S a b + 1)) ≤ 8 → MG X Y (nI (nv S), edE S a (ixP S a b) s5) (F_X9_put_275 88 (nI a) (nI (rl S a)) V5 (md X I5 A5 Y)) := fun {I5 A5 k5 s5} M5 R5 P5 hn5 => by
        unfold F_X9_put_275
        by_cases z : rl S a = 0
        · have q1 := (p5 z).1
          rw [h5 z, show (-1 : Int32) + 1 = nI 0 from rfl]
          exact end_t (X := X) (Y := Y) (a := 0) (b := rl S a) w ha c4 c3.1.1 M5 R5 P5 (by omega) (by omega) (by omega) (Or.inr (by omega)) hn5
        · have q2 := p2 z
          rw [h5' z, nI_1]
          exact end_t (X := X) (Y := Y) (a := ixP S a b + 1) (b := rl S a) w ha c4 c3.1.1 M5 R5 P5 (by omega) (by omega) rfl (Or.inl rfl) hn5
      rw [e3]
      unfold edR
      have hroom := c3.1.2
      by_cases z : lnP S a b = 24
      · have ek : kPut (lnP S a b) = 2 := by unfold kPut; rw [if_pos z]
        rw [ek] at hroom
        have z8 := hix.2 z
        rw [decide_eq_true z, if_neg (show ¬ bI true = 0 by decide)]
        rw [z] at N3 R3' P3 hg ⊢
        obtain ⟨I4, A4, e4, R4, P4⟩ := split_t (X := X) (Y := Y) M0 R3' N3 P3 hg hix.1 hroom
        obtain ⟨M4, en⟩ := edI_pl (g := gS (sg S (rw_ S a (ixP S a b))) (ofP S a b) y 0) (m := 25) M0 (by omega) hg (by show nb S + 2 ≤ 200; exact hroom)
        have en : (plS (ed0 S a (ixP S a b)) 25 (gS (sg S (rw_ S a (ixP S a b))) (ofP S a b) y 0)).2.1 = ixP S a b + 2 := en
        rw [e4, Option.bind_some]
        have q2 := p2 (fun q => by have := (p5 q).2.2; omega)
        exact E M4 R4 P4 (by rw [en]; omega)
      · have ek : kPut (lnP S a b) = 1 := by unfold kPut; rw [if_neg z]
        rw [ek] at hroom
        rw [decide_eq_false z, if_pos (show bI false = 0 from rfl)]
        obtain ⟨I4, A4, e4, R4, P4, -⟩ := lay1_t (X := X) (Y := Y) M0 R3' N3 P3 ⟨by omega, by omega⟩ hg (by show ixP S a b < 9; omega) (by omega)
        have M4 := edI_step M0 (m := lnP S a b + 1) ⟨by omega, by omega⟩ hg (by omega)
        rw [e4, Option.bind_some, show plS (ed0 S a (ixP S a b)) (lnP S a b + 1) (gS (sg S (rw_ S a (ixP S a b))) (ofP S a b) y 0) = edL (ed0 S a (ixP S a b)) (lnP S a b + 1) (gS (sg S (rw_ S a (ixP S a b))) (ofP S a b) y 0) by unfold plS; rw [if_neg (by omega), if_pos (by omega)]]
        refine E M4 R4 P4 ?_
        show ixP S a b + 1 + _ ≤ 8
        omega
    rw [b1, Option.bind_some]
    rw [show F_X9_takeBlocks 88 (nI a) 0 V5 (md X (upd (upd I 16 (nI 0)) 17 (nI 0)) A Y) = some (md X I1 A1 Y) from t1, Option.bind_some]
    rw [show am_pi 9 14 88 0 (md X I1 A1 Y) = some (md X (upd I1 14 (nI 0)) A1 Y) from md_pi14 _, Option.bind_some]
    by_cases z : rl S a = 0
    · obtain ⟨q1, q2, q3⟩ := p5 z
      rw [if_pos (show nI (rl S a) ≤ 0 by rw [z]; decide), md_gi14, Option.bind_some, upd_self]
      have G1 := G R1' (by rw [q3]; exact upd_self) (fun i hi => by omega) (P1.iA (upd_ne (by decide)) (upd_ne (by decide)) rfl)
      rw [show nI 0 = nI (lnP S a b) by rw [q3]]
      rw [show upd I1 14 (nI (lnP S a b)) = upd I1 14 (nI 0) by rw [q3]]
      exact G1
    · have l1 := p2 z
      have hbk := (w.2.2.2.2 a ha).1.2 _ l1
      have e7 := p7 z
      obtain ⟨A2, s1, R2, M2, s2⟩ := signs_t (X := X) (Y := Y) w R1' hbk
      rw [if_neg (show ¬ nI (rl S a) ≤ 0 from nI_ge (a := 0) (by omega) (by omega)), show F_X9_blockAt 88 (nI a) V5 (md X (upd I1 14 (nI 0)) A1 Y) = some (nI (rw_ S a (ixP S a b))) by rw [h5' z]; exact A8 w R1' ha l1, Option.bind_some, s1, Option.bind_some, md_gi14, Option.bind_some, upd_self]
      rw [← e7] at M2 ⊢
      rw [← e7] at R2
      exact G R2 M2.1 M2.2 (P1.iA ((upd_ne (by decide)).trans (upd_ne (by decide))) ((upd_ne (by decide)).trans (upd_ne (by decide))) (s2 15 (by decide)))
  · rw [if_neg c4, if_neg (show ¬ nI (trn S a) ≤ 0 from nI_ge (a := 0) (by omega) (by omega))]
    exact MG.no R _
theorem put_128 {I : Nat → Int32} {A : Nat → Nat → Int32} (w : WF S) (R : RM S I A) {a b y : Nat} {V5 : Int32} (ha : a < nv S) (hb : b ≤ plc S a) (hy : y < 16) (h5 : rl S a = 0 → V5 = -1) (h5' : rl S a ≠ 0 → V5 = nI (ixP S a b)) : MG X Y (if roomS S (kPut (lnP S a b)) ∧ ¬ (lnP S a b = 24 ∧ rl S a = 8) then (if trn S a = 0 then edR S a (ixP S a b) (lnP S a b + 1) (gS (sg S (rw_ S a (ixP S a b))) (ofP S a b) y 0) else (-100005, S)) else (-100004, S)) (F_X9_put_128 88 (nI a) (nI y) (nI (rl S a)) V5 (nI (ofP S a b)) (bI (decide (lnP S a b = 24))) (md X I A Y)) := by
  have hr := (w.2.2.2.2 a ha).1.1
  have fin := put_162 (X := X) (Y := Y) w R ha hb hy h5 h5'
  unfold F_X9_put_128 F_X9_put_141 F_X9_put_159
  have e8 : (nI (rl S a) = (8 : Int32)) ↔ rl S a = 8 := nI_eq (b := 8) (by omega) (by decide)
  by_cases z : lnP S a b = 24
  · have ek : kPut (lnP S a b) = 2 := by unfold kPut; rw [if_pos z]
    rw [if_neg (show ¬ bI (decide (lnP S a b = 24)) = 0 by rw [decide_eq_true z]; decide)]
    rw [show F_X9_isFull 88 2 (md X I A Y) = F_X9_isFull 88 (nI 2) (md X I A Y) from rfl, isFull_t w R (by omega), Option.bind_some, if_neg (show ¬ bI (decide (lnP S a b = 24)) = 0 by rw [decide_eq_true z]; decide)]
    by_cases c3 : roomS S 2
    · rw [decide_eq_false (show ¬ ¬ (nv S < 30 ∧ nb S + 2 ≤ 200) from fun z => z c3), if_pos (show bI false = 0 from rfl)]
      by_cases z8 : rl S a = 8
      · rw [if_pos (e8.mpr z8), if_neg (show ¬ (roomS S (kPut (lnP S a b)) ∧ ¬ (lnP S a b = 24 ∧ rl S a = 8)) from fun q => q.2 ⟨z, z8⟩)]
        exact MG.no R _
      · rw [if_neg (fun q => z8 (e8.mp q)), if_pos (show roomS S (kPut (lnP S a b)) ∧ ¬ (lnP S a b = 24 ∧ rl S a = 8) from ⟨by rw [ek]; exact c3, fun q => z8 q.2⟩)]
        exact fin ⟨by rw [ek]; exact c3, fun q => z8 q.2⟩
    · rw [decide_eq_true (show ¬ (nv S < 30 ∧ nb S + 2 ≤ 200) from c3), if_neg (show ¬ bI true = 0 by decide), if_neg (show ¬ (roomS S (kPut (lnP S a b)) ∧ ¬ (lnP S a b = 24 ∧ rl S a = 8)) from fun q => c3 (by rw [← ek]; exact q.1))]
      exact MG.no R _
  · have ek : kPut (lnP S a b) = 1 := by unfold kPut; rw [if_neg z]
    rw [if_pos (show bI (decide (lnP S a b = 24)) = 0 by rw [decide_eq_false z]; rfl)]
    rw [show F_X9_isFull 88 1 (md X I A Y) = F_X9_isFull 88 (nI 1) (md X I A Y) from rfl, isFull_t w R (by omega), Option.bind_some, if_pos (show bI (decide (lnP S a b = 24)) = 0 by rw [decide_eq_false z]; rfl)]
    by_cases c3 : roomS S 1
    · rw [decide_eq_false (show ¬ ¬ (nv S < 30 ∧ nb S + 1 ≤ 200) from fun z => z c3), if_pos (show bI false = 0 from rfl), if_pos (show roomS S (kPut (lnP S a b)) ∧ ¬ (lnP S a b = 24 ∧ rl S a = 8) from ⟨by rw [ek]; exact c3, fun q => z q.1⟩)]
      exact fin ⟨by rw [ek]; exact c3, fun q => z q.1⟩
    · rw [decide_eq_true (show ¬ (nv S < 30 ∧ nb S + 1 ≤ 200) from c3), if_neg (show ¬ bI true = 0 by decide), if_neg (show ¬ (roomS S (kPut (lnP S a b)) ∧ ¬ (lnP S a b = 24 ∧ rl S a = 8)) from fun q => c3 (by rw [← ek]; exact q.1))]
      exact MG.no R _
theorem put_101 {I : Nat → Int32} {A : Nat → Nat → Int32} (w : WF S) (R : RM S I A) {a b y : Nat} {V5 : Int32} (ha : a < nv S) (hb : b ≤ plc S a) (hy : y < 16) (h5 : rl S a = 0 → V5 = -1) (h5' : rl S a ≠ 0 → V5 = nI (ixP S a b)) : MG X Y (if roomS S (kPut (lnP S a b)) ∧ ¬ (lnP S a b = 24 ∧ rl S a = 8) then (if trn S a = 0 then edR S a (ixP S a b) (lnP S a b + 1) (gS (sg S (rw_ S a (ixP S a b))) (ofP S a b) y 0) else (-100005, S)) else (-100004, S)) (F_X9_put_101 88 (nI a) (nI y) (nI (rl S a)) V5 (nI (ofP S a b)) (md X I A Y)) := by
  have hr := (w.2.2.2.2 a ha).1.1
  obtain ⟨p1, p2, p3, p4, p5, p6, p7⟩ := putP w ha hb
  have fin := put_128 (X := X) (Y := Y) w R ha hb hy h5 h5'
  unfold F_X9_put_101 F_X9_put_127
  by_cases z : rl S a = 0
  · rw [if_pos (show nI (rl S a) ≤ 0 by rw [z]; decide)]
    rw [decide_eq_false (show ¬ lnP S a b = 24 from fun q => by have := (p5 z).2.2; omega)] at fin
    exact fin
  · have l1 := p2 z
    have hbk := (w.2.2.2.2 a ha).1.2 _ l1
    have e7 := p7 z
    rw [if_neg (show ¬ nI (rl S a) ≤ 0 from nI_ge (a := 0) (by omega) (by omega)), md_gr3, Option.bind_some, show F_X9_blockAt 88 (nI a) V5 (md X I A Y) = some (nI (rw_ S a (ixP S a b))) by rw [h5' z]; exact A8 w R ha l1, Option.bind_some, A3 w R hbk, Option.bind_some, ← e7]
    have e24 : (nI (lnP S a b) = (24 : Int32)) ↔ lnP S a b = 24 := nI_eq (b := 24) (by omega) (by decide)
    by_cases z4 : lnP S a b = 24
    · rw [if_pos (e24.mpr z4)]
      rw [decide_eq_true z4] at fin
      exact fin
    · rw [if_neg (fun q => z4 (e24.mp q))]
      rw [decide_eq_false z4] at fin
      exact fin
theorem m_put {I : Nat → Int32} {A : Nat → Nat → Int32} (w : WF S) (R : RM S I A) (v p x : Int32) : MG X Y (sp_put S v p x) (F_X9_put 88 v p x (md X I A Y)) := by
  unfold sp_put F_X9_put F_X9_put_b F_X9_put_78
  rw [md_obj, Option.bind_some]
  by_cases c0 : vd (nv S) v
  · obtain ⟨a, ha, rfl⟩ := nI_of_toInt c0.1 c0.2
    have hw := w.2.2.2.1
    have hp := plc_le w ha
    have hnp := noPlace_spec (X := X) (Y := Y) w R ha p 1 (by omega)
    rw [show nI 1 = (1 : Int32) from rfl] at hnp
    rw [cl_nI (by omega), hnp, Option.bind_some]
    by_cases c1 : vd (plc S a + 1) p
    · rw [if_pos (show vd (nv S) (nI a) ∧ vd (plc S a + 1) p from ⟨c0, c1⟩), if_pos c1, if_pos rfl, in_spec, Option.bind_some]
      have ex : ((0 : Int64).toInt ≤ (Int32.toInt64 x).toInt ∧ (Int32.toInt64 x).toInt ≤ (15 : Int64).toInt) ↔ (0 ≤ x.toInt ∧ x.toInt ≤ 15) := by
        rw [show (0 : Int64).toInt = 0 by decide, show (15 : Int64).toInt = 15 by decide, Int32.toInt_toInt64]
      by_cases c2 : 0 ≤ x.toInt ∧ x.toInt ≤ 15
      · rw [if_pos c2, if_pos (ex.mpr c2), if_neg (show ¬ (1 : Int32) = 0 by decide)]
        obtain ⟨b, hb, rfl⟩ := nI_of_toInt c1.1 c1.2
        obtain ⟨y, hy, rfl⟩ := nI_of_toInt (n := 16) c2.1 (by have := c2.2; omega)
        rw [cl_nI (show b < 2 ^ 31 by omega), cl_nI (show y < 2 ^ 31 by omega)]
        have hb : b ≤ plc S a := by omega
        have hr := (w.2.2.2.2 a ha).1.1
        obtain ⟨p1, p2, p3, p4, p5, p6, p7⟩ := putP w ha hb
        rw [md_gr7, Option.bind_some, A7 w R ha, Option.bind_some, placesOf_spec w R ha, Option.bind_some]
        have e1 : (nI b = nI (plc S a)) ↔ b = plc S a := nI_eq (by omega) (by omega)
        by_cases z : b = plc S a
        · rw [if_pos (e1.mpr z)]
          have ei : ixP S a b = rl S a - 1 := by unfold ixP; rw [if_pos z]
          have eo : ofP S a b = lnP S a b := by unfold ofP; rw [if_pos z]
          by_cases z0 : rl S a = 0
          · rw [if_pos (show nI (rl S a) = 0 by rw [z0]; rfl)]
            have := put_101 (X := X) (Y := Y) (V5 := nI (rl S a) - 1) w R ha hb hy (fun _ => by rw [z0]; rfl) (fun q => absurd z0 q)
            rw [(p5 z0).2.1] at this ⊢
            exact this
          · have e9 : nI (rl S a) - 1 = nI (rl S a - 1) := by rw [show (1 : Int32) = nI 1 from rfl, nI_subN (by omega)]
            have l1 := p2 z0
            have hbk := (w.2.2.2.2 a ha).1.2 _ l1
            rw [if_neg (show ¬ nI (rl S a) = 0 from nI_ne0 (by omega) (by omega)), md_gr3, Option.bind_some, e9, ← ei, A8 w R ha l1, Option.bind_some, A3 w R hbk, Option.bind_some, ← p7 z0, show nI (lnP S a b) = nI (ofP S a b) by rw [eo]]
            have := put_101 (X := X) (Y := Y) (V5 := nI (ixP S a b)) w R ha hb hy (fun q => absurd q z0) (fun _ => rfl)
            exact this
        · rw [if_neg (fun q => z (e1.mp q))]
          have ei : ixP S a b = (loc S a b).1 := by unfold ixP; rw [if_neg z]
          have eo : ofP S a b = (loc S a b).2 := by unfold ofP; rw [if_neg z]
          have Rf : RM S (upd (upd I 18 (nI (loc S a b).1)) 19 (nI (loc S a b).2)) A := RM_IA R (fun k hk => (upd_ne (by omega)).trans (upd_ne (by omega))) (fun _ _ => rfl)
          obtain ⟨l1, l2, l3⟩ := loc_spec (S := S) (v := a) (p := b) (by omega)
          rw [find_spec w R ha (by omega), Option.bind_some, md_gi18, Option.bind_some, md_gi19, Option.bind_some, show upd (upd I 18 (nI (loc S a b).1)) 19 (nI (loc S a b).2) 18 = nI (loc S a b).1 from (upd_ne (by decide)).trans upd_self, show upd (upd I 18 (nI (loc S a b).1)) 19 (nI (loc S a b).2) 19 = nI (loc S a b).2 from upd_self]
          have := put_101 (X := X) (Y := Y) (V5 := nI (ixP S a b)) w Rf ha hb hy (fun q => by omega) (fun _ => rfl)
          rw [show nI (loc S a b).1 = nI (ixP S a b) by rw [ei], show nI (loc S a b).2 = nI (ofP S a b) by rw [eo]] at this ⊢
          exact this
      · rw [if_neg c2, if_neg (fun z => c2 (ex.mp z)), if_pos rfl]
        exact MG.no R _
    · rw [if_neg (show ¬ (vd (nv S) (nI a) ∧ vd (plc S a + 1) p) from fun z => c1 z.2), if_neg c1, if_neg (show ¬ (1 : Int32) = 0 by decide)]
      exact MG.no R _
  · rw [noPlace_f w R c0, Option.bind_some, if_neg (show ¬ (1 : Int32) = 0 by decide), if_neg (fun z => c0 z.1)]
    exact MG.no R _
end EM2
