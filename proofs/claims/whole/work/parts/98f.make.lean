/-! make -/
abbrev sM : Type := sS × Nat × (Nat → Nat) × Nat
def mkm (nd fm : Nat) : Nat := if nd - fm < 16 then nd - fm else 16
def mkL (d : Nat → Nat) (m : Nat) : Nat → Nat → sM → sM
  | 0, _, s => s
  | q + 1, fm, s => if m ≤ fm then s else mkL d m q (fm + 16) (layS s.1 (mkm m fm) (fun k => d (fm + k)), s.2.1 + 1, updN s.2.2.1 s.2.1 (lkB s.1 (mkm m fm) (fun k => d (fm + k))), s.2.2.2 + layN s.1 (mkm m fm) (fun k => d (fm + k)))
/-- what holds on the way -/
def mkI (S : sS) (fm : Nat) (s : sM) : Prop := (WF s.1 ∧ s.1.1 = S.1 ∧ s.1.2.1 = S.2.1 ∧ s.1.2.2.2 = S.2.2.2) ∧ (nb s.1 = nb S + s.2.2.2 ∧ s.2.2.2 ≤ s.2.1 ∧ 16 * s.2.1 = fm) ∧ ∀ j, j < s.2.1 → s.2.2.1 j < nb s.1 ∧ tn s.1 (s.2.2.1 j) = false
theorem mkI_step {S : sS} {fm : Nat} {s : sM} (w : WF S) (M : mkI S fm s) (hr : nb S + (nd S + 15) / 16 ≤ 200) (h : fm < nd S) : mkI S (fm + 16) (layS s.1 (mkm (nd S) fm) (fun k => dr S (fm + k)), s.2.1 + 1, updN s.2.2.1 s.2.1 (lkB s.1 (mkm (nd S) fm) (fun k => dr S (fm + k))), s.2.2.2 + layN s.1 (mkm (nd S) fm) (fun k => dr S (fm + k))) ∧ (1 ≤ mkm (nd S) fm ∧ mkm (nd S) fm ≤ 24 ∧ fm + mkm (nd S) fm ≤ nd S) ∧ (∀ k, k < mkm (nd S) fm → dr S (fm + k) < 16) ∧ nb s.1 < 200 ∧ s.2.1 < 6 ∧ s.2.2.2 < 1000 := by
  obtain ⟨⟨m1, m2, m3, m4⟩, ⟨m5, m6, m7⟩, m8⟩ := M
  have hd := w.1.1
  have hm : 1 ≤ mkm (nd S) fm ∧ mkm (nd S) fm ≤ 24 ∧ fm + mkm (nd S) fm ≤ nd S := by unfold mkm; split <;> omega
  have hg : ∀ k, k < mkm (nd S) fm → dr S (fm + k) < 16 := fun k hk => w.1.2 _ (by omega)
  have hb : nb s.1 < 200 := by omega
  obtain ⟨l1, l2, l3, l4, l5⟩ := lay_ok (S := s.1) (n := mkm (nd S) fm) (g := fun k => dr S (fm + k))
  obtain ⟨v1, v2, v3⟩ := lay_vs s.1 (mkm (nd S) fm) (fun k => dr S (fm + k))
  refine ⟨⟨⟨WF_lay m1 ⟨hm.1, hm.2.1⟩ hg hb, v1.trans m2, v2.trans m3, v3.trans m4⟩, ⟨by show nb (layS s.1 (mkm (nd S) fm) (fun k => dr S (fm + k))) = nb S + (s.2.2.2 + layN s.1 (mkm (nd S) fm) (fun k => dr S (fm + k))); rw [l1, m5]; omega, by show s.2.2.2 + layN _ _ _ ≤ s.2.1 + 1; omega, by show 16 * (s.2.1 + 1) = fm + 16; omega⟩, fun j hj => ?_⟩, hm, hg, hb, by omega, by omega⟩
  have hj : j < s.2.1 + 1 := hj
  show updN s.2.2.1 s.2.1 (lkB s.1 _ _) j < nb (layS s.1 _ _) ∧ tn (layS s.1 _ _) (updN s.2.2.1 s.2.1 (lkB s.1 _ _) j) = false
  by_cases z : j = s.2.1
  · rw [z, updN_self]; exact ⟨l2, l3⟩
  · obtain ⟨a1, a2⟩ := m8 j (by omega)
    rw [updN_ne z, l4 _ a1]
    exact ⟨by omega, a2⟩
def sp_make (S : sS) : Int32 × sS := if nd S = 0 then (-100003, S) else if nv S < 30 ∧ nb S + (nd S + 15) / 16 ≤ 200 then (nI (nv S), S_v (S_d (mkL (dr S) (nd S) 7 0 (S, 0, fun _ => 0, 0)).1 0 (dr S)) (mkL (dr S) (nd S) 7 0 (S, 0, fun _ => 0, 0)).2.1 (mkL (dr S) (nd S) 7 0 (S, 0, fun _ => 0, 0)).2.2.1 (-1) (mkL (dr S) (nd S) 7 0 (S, 0, fun _ => 0, 0)).2.2.2) else (-100004, S)
theorem mkI_0 {S : sS} (w : WF S) : mkI S 0 (S, 0, fun _ => 0, 0) := ⟨⟨w, rfl, rfl, rfl⟩, ⟨rfl, Nat.le_refl _, rfl⟩, fun j hj => by have hj : j < 0 := hj; omega⟩
theorem mkL_ok {S : sS} (w : WF S) (hr : nb S + (nd S + 15) / 16 ≤ 200) : ∀ q fm s, mkI S fm s → nd S < fm + 16 * q → ∃ fm', mkI S fm' (mkL (dr S) (nd S) q fm s) ∧ nd S ≤ fm' ∧ (mkL (dr S) (nd S) q fm s).2.1 ≤ max s.2.1 6
  | 0, fm, s, M, h => ⟨fm, M, by omega, Nat.le_max_left _ _⟩
  | q + 1, fm, s, M, h => by
    unfold mkL
    by_cases c : nd S ≤ fm
    · rw [if_pos c]; exact ⟨fm, M, c, Nat.le_max_left _ _⟩
    · rw [if_neg c]
      obtain ⟨M', -, -, -, h6, -⟩ := mkI_step w M hr (by omega)
      obtain ⟨fm', a, b, c'⟩ := mkL_ok w hr q (fm + 16) _ M' (by omega)
      refine ⟨fm', a, b, Nat.le_trans c' ?_⟩
      show max (s.2.1 + 1) 6 ≤ max s.2.1 6
      omega
theorem WF_d {S : sS} (w : WF S) (f : Nat → Nat) : WF (S_d S 0 f) := ⟨⟨Nat.zero_le _, fun j hj => by have hj : j < 0 := hj; omega⟩, w.2⟩
theorem WF_make {S : sS} (w : WF S) : WF (sp_make S).2 ∧ nb S + nv S ≤ nb (sp_make S).2 + nv (sp_make S).2 := by
  unfold sp_make
  by_cases c0 : nd S = 0
  · rw [if_pos c0]; exact ⟨w, Nat.le_refl _⟩
  · rw [if_neg c0]
    by_cases c1 : nv S < 30 ∧ nb S + (nd S + 15) / 16 ≤ 200
    · rw [if_pos c1]
      have hd := w.1.1
      obtain ⟨fm, ⟨⟨m1, m2, m3, m4⟩, ⟨m5, m6, m7⟩, m8⟩, h1, h2⟩ := mkL_ok w c1.2 7 0 _ (mkI_0 w) (by omega)
      have h2 : (mkL (dr S) (nd S) 7 0 (S, 0, fun _ => 0, 0)).2.1 ≤ max 0 6 := h2
      have e : nv (mkL (dr S) (nd S) 7 0 (S, 0, fun _ => 0, 0)).1 = nv S := congrArg (fun q : Nat × (Nat → Nat) × (Nat → Nat → Nat) × (Nat → Int32) × (Nat → Nat) × (Nat → Nat → Nat) × (Nat → Nat → Nat) => q.1) m4
      refine ⟨WF_v (WF_d m1 _) (by omega) (fun i hi => (m8 i hi).1) (by show nv (mkL (dr S) (nd S) 7 0 (S, 0, fun _ => 0, 0)).1 < 30; omega), ?_⟩
      show nb S + nv S ≤ nb (mkL (dr S) (nd S) 7 0 (S, 0, fun _ => 0, 0)).1 + (nv (mkL (dr S) (nd S) 7 0 (S, 0, fun _ => 0, 0)).1 + 1)
      omega
    · rw [if_neg c1]; exact ⟨w, Nat.le_refl _⟩
section MKX
variable {Z : sZ} {S : sS} {pb pv : Nat → Nat} {h : am_H}
theorem make_40 (w : WF S) (hr : nb S + (nd S + 15) / 16 ≤ 200) (hv : nv S < 30) {f : Nat → Int32} (hf : ∀ j, j < nd S → f j = nI (dr S j)) : ∀ (q q' fm : Nat) (s : sM) (h : am_H) (pb : Nat → Nat), mkI S fm s → XP Z s.1 pb pv h s.2.1 s.2.2.1 s.2.2.2 → RowAt h 2 96 (nd S) f → nd S < fm + 16 * q' → q' < q →
    ∃ h' pb' pv', F_X8_make_40 q 1 (nI (nd S)) (nI fm) h = some (nI (nv S), h') ∧ RX Z (S_v (S_d (mkL (dr S) (nd S) q' fm s).1 0 (dr S)) (mkL (dr S) (nd S) q' fm s).2.1 (mkL (dr S) (nd S) q' fm s).2.2.1 (-1) (mkL (dr S) (nd S) q' fm s).2.2.2) pb' pv' h' ∧ ∃ k, Kp h h' (k + 1) ∧ s.2.2.2 + k = (mkL (dr S) (nd S) q' fm s).2.2.2
  | 0, q', fm, s, h, pb, M, P, r, h1, h2 => by omega
  | q + 1, q', fm, s, h, pb, M, P, r, h1, h2 => by
    have hd := w.1.1
    have h16 := M.2.1
    by_cases c : nd S ≤ fm
    · have eL : mkL (dr S) (nd S) q' fm s = s := by
        cases q' with
        | zero => rfl
        | succ q' => exact if_pos c
      rw [eL]
      obtain ⟨⟨m1, m2, m3, m4⟩, ⟨m5, m6, m7⟩, m8⟩ := id M
      obtain ⟨C, o, fp, rp, hfp⟩ := P
      obtain ⟨h1', e1, r1, F1⟩ := row_empty r
      obtain ⟨f3, r3, d3⟩ := C.2.2.1
      have C1 : RX Z (S_d s.1 0 (dr S)) pb pv h1' := C.dp (F1.mono (fun q z => by omega)) (n := 0) (f := dr S) ⟨f, r1, fun j hj => by omega⟩ ⟨f3, r3.fr F1 (by omega) (by omega), d3⟩
      have P1 : XP Z (S_d s.1 0 (dr S)) pb pv h1' s.2.1 s.2.2.1 s.2.2.2 := ⟨C1, (obj_at (F1.2.2 _ (by omega))).trans o, fp, rp.fr F1 (by omega) (by omega), hfp⟩
      have e : nv s.1 = nv S := congrArg (fun q : Nat × (Nat → Nat) × (Nat → Nat → Nat) × (Nat → Int32) × (Nat → Nat) × (Nat → Nat → Nat) × (Nat → Nat → Nat) => q.1) m4
      have hpn : s.2.1 ≤ 8 := rp.2.1
      obtain ⟨h2', pv', e2, C2, K2⟩ := keepPlan_t (WF_d m1 (dr S)) P1 hpn m8 (by show nv s.1 < 30; omega) (-1)
      refine ⟨h2', pb, pv', ?_, C2, 0, ?_, rfl⟩
      · rw [F_X8_make_40, if_pos (nI_le c (by omega)), C.gr (k := 0) (x := 2) (fun _ => rfl), Option.bind_some, e1, Option.bind_some, e2, Option.bind_some]
        show some (nI (nv s.1), h2') = _
        rw [e]
      · exact (Kp.fr F1 (fun q h1 h2 => by omega)).tr K2
    · obtain ⟨q'', rfl⟩ : ∃ q'', q' = q'' + 1 := ⟨q' - 1, by omega⟩
      obtain ⟨M', hm, hg, hb, h6, hc⟩ := mkI_step w M hr (by omega)
      have eL : mkL (dr S) (nd S) (q'' + 1) fm s = mkL (dr S) (nd S) q'' (fm + 16) (layS s.1 (mkm (nd S) fm) (fun k => dr S (fm + k)), s.2.1 + 1, updN s.2.2.1 s.2.1 (lkB s.1 (mkm (nd S) fm) (fun k => dr S (fm + k))), s.2.2.2 + layN s.1 (mkm (nd S) fm) (fun k => dr S (fm + k))) := if_neg c
      rw [eL]
      obtain ⟨h1', pb1, e1, P1, r1, K1⟩ := planBlock_t M.1.1 P (src := 2) (i := fm) (n := mkm (nd S) fm) (g := fun k => dr S (fm + k)) (Or.inl rfl) r ⟨hm.1, hm.2.1⟩ hm.2.2 (fun k hk => ⟨hf _ (by omega), hg k hk⟩) (by omega) hb hc
      obtain ⟨h2', pb2, pv2, e2, C2, k, K2, ek⟩ := make_40 w hr hv hf q q'' (fm + 16) _ h1' pb1 M' P1 r1 (by omega) (by omega)
      refine ⟨h2', pb2, pv2, ?_, C2, layN s.1 (mkm (nd S) fm) (fun k => dr S (fm + k)) + k, ?_, ?_⟩
      · have C := P.1
        rw [F_X8_make_40, if_neg (nI_ge (by omega) (by omega)), C.gr (k := 0) (x := 2) (fun _ => rfl), Option.bind_some, show (16 : Int32) = nI 16 from rfl, nI_add, jmin (by omega) (by omega), Option.bind_some, show (if fm + 16 < nd S then fm + 16 else nd S) = fm + mkm (nd S) fm by unfold mkm; split <;> split <;> omega, e1, Option.bind_some]
        exact e2
      · have := K1.tr K2
        rw [show layN s.1 (mkm (nd S) fm) (fun k => dr S (fm + k)) + k + 1 = layN s.1 (mkm (nd S) fm) (fun k => dr S (fm + k)) + (k + 1) by omega]
        exact this
      · rw [← ek]
        show _ = s.2.2.2 + layN s.1 (mkm (nd S) fm) (fun k => dr S (fm + k)) + k
        omega
theorem x_make (w : WF S) (C : RX Z S pb pv h) : ∃ h' pb' pv', F_X8_make 1 h = some ((sp_make S).1, h') ∧ RX Z (sp_make S).2 pb' pv' h' ∧ ∃ k, Kp h h' k ∧ nb S + nv S + k = nb (sp_make S).2 + nv (sp_make S).2 := by
  obtain ⟨f, r, hf⟩ := C.2.1
  have hd := w.1.1
  unfold sp_make F_X8_make F_X8_make_b
  rw [C.ob, C.gr (k := 0) (x := 2) (fun _ => rfl), Option.bind_some, row_length r, Option.bind_some]
  by_cases c0 : nd S = 0
  · rw [if_pos c0, if_pos (by rw [c0]; rfl)]
    exact ⟨h, pb, pv, rfl, C, 0, Kp.fr Fr.rf (fun _ _ _ => fun z => z), rfl⟩
  · rw [if_neg c0, if_neg (nI_ne0 (by omega) (by omega)), show (16 : Int32) = nI 16 from rfl, nI_add, show nI (nd S + 16) - 1 = nI (nd S + 15) from pre_nI _, nI_div (by omega) (by omega), hasRoom_t w C (by omega), Option.bind_some]
    by_cases c1 : nv S < 30 ∧ nb S + (nd S + 15) / 16 ≤ 200
    · rw [if_pos c1, decide_eq_true c1, if_neg (show ¬ bI true = 0 by decide)]
      obtain ⟨h1, e1, P1, F1⟩ := startPlan_t C
      obtain ⟨h2, pb2, pv2, e2, C2, k, K2, ek⟩ := make_40 w c1.2 c1.1 hf am_F 7 0 (S, 0, fun _ => 0, 0) h1 pb (mkI_0 w) (P1 _) (r.fr F1 (by omega) (by omega)) (by omega) (by show _ < 100000; omega)
      obtain ⟨fm, ⟨⟨m1, m2, m3, m4⟩, ⟨m5, m6, m7⟩, m8⟩, -, -⟩ := mkL_ok w c1.2 7 0 _ (mkI_0 w) (by omega)
      have e : nv (mkL (dr S) (nd S) 7 0 (S, 0, fun _ => 0, 0)).1 = nv S := congrArg (fun q : Nat × (Nat → Nat) × (Nat → Nat → Nat) × (Nat → Int32) × (Nat → Nat) × (Nat → Nat → Nat) × (Nat → Nat → Nat) => q.1) m4
      refine ⟨h2, pb2, pv2, ?_, C2, k + 1, ?_, ?_⟩
      · rw [e1, Option.bind_some]
        exact e2
      · have := (Kp.fr F1 (fun q h1 h2 => by omega)).tr K2
        rw [Nat.zero_add] at this
        exact this
      · show nb S + nv S + (k + 1) = nb (mkL (dr S) (nd S) 7 0 (S, 0, fun _ => 0, 0)).1 + (nv (mkL (dr S) (nd S) 7 0 (S, 0, fun _ => 0, 0)).1 + 1)
        have ek : 0 + k = (mkL (dr S) (nd S) 7 0 (S, 0, fun _ => 0, 0)).2.2.2 := ek
        omega
    · rw [if_neg c1, decide_eq_false c1, if_pos (show bI false = 0 from rfl)]
      exact ⟨h, pb, pv, rfl, C, 0, Kp.fr Fr.rf (fun _ _ _ => fun z => z), rfl⟩
end MKX
section MKM
variable {X : Fin 87 → am_C} {Y : am_H} {S : sS}
theorem make_74 {K : Nat → Int32 → am_H → Option (Int32 × am_H)} {S1 : sS} {fm m : Nat} (hd : S1.1 = S.1) (hn : nd S ≤ 96) (hm : m ≤ 24 ∧ fm + m ≤ nd S) : ∀ (q k j : Nat) (I : Nat → Int32) (A : Nat → Nat → Int32), RM S1 I A → I 14 = nI m → j + k = m → k < q → (∀ i, i < j → A 13 i = nI (dr S (fm + i))) →
    ∃ A', F_X9_make_74 K q 88 (nI fm) (nI j) (md X I A Y) = ((F_X9_lay 88 (md X I A' Y)).bind fun h3 => K 88 (nI (fm + 16)) h3) ∧ RM S1 I A' ∧ MN I A' m (fun k => dr S (fm + k)) ∧ ∀ q, q ≠ 13 → A' q = A q
  | 0, k, j, I, A, R, h1, h2, h3, h4 => by omega
  | q + 1, 0, j, I, A, R, h1, h2, h3, h4 => by
    refine ⟨A, ?_, R, ⟨h1, fun i hi => h4 i (by omega)⟩, fun _ _ => rfl⟩
    rw [F_X9_make_74, md_gi14, Option.bind_some, h1, if_pos (nI_le (by omega) (by omega)), show (16 : Int32) = nI 16 from rfl, nI_add]
  | q + 1, k + 1, j, I, A, R, h1, h2, h3, h4 => by
    have hr := R.1.2 (fm + j) (by rw [show nd S1 = nd S from congrArg (fun q : Nat × (Nat → Nat) => q.1) hd]; omega)
    rw [show dr S1 = dr S from congrArg (fun q : Nat × (Nat → Nat) => q.2) hd] at hr
    have R1 : RM S1 I (upA A 13 j (nI (dr S (fm + j)))) := RM_IA R (fun _ _ => rfl) (fun q hq => upA_ne (by omega))
    obtain ⟨A', e, R', M', g⟩ := make_74 (K := K) hd hn hm q k (j + 1) I _ R1 h1 (by omega) (by omega) (fun i hi => by
      rw [upA_self]
      by_cases z : i = j
      · rw [z, upd_self]
      · rw [upd_ne z]; exact h4 i (by omega))
    refine ⟨A', ?_, R', M', fun q hq => (g q hq).trans (upA_ne hq)⟩
    rw [F_X9_make_74, md_gi14, Option.bind_some, h1, if_neg (nI_ge (by omega) (by omega)), md_gr13, Option.bind_some, md_gr1, Option.bind_some, nI_add, md_il1, ix_nI (show fm + j < 96 by omega) (by decide), Option.bind_some, Option.bind_some, hr, md_is13, ix_nI (show j < 25 by omega) (by decide), Option.bind_some, Option.bind_some, nI_1]
    exact e
theorem make_38 (w : WF S) (hr : nb S + (nd S + 15) / 16 ≤ 200) (hv : nv S < 30) : ∀ (q q' fm : Nat) (s : sM) (I : Nat → Int32) (A : Nat → Nat → Int32), mkI S fm s → RM s.1 I A → MP I A s.2.1 s.2.2.1 s.2.2.2 → s.2.1 ≤ 6 → nd S < fm + 16 * q' → q' < q →
    ∃ I' A', F_X9_make_38 q 88 (nI fm) (md X I A Y) = some (nI (nv S), md X I' A' Y) ∧ RM (S_v (S_d (mkL (dr S) (nd S) q' fm s).1 0 (dr S)) (mkL (dr S) (nd S) q' fm s).2.1 (mkL (dr S) (nd S) q' fm s).2.2.1 (-1) (mkL (dr S) (nd S) q' fm s).2.2.2) I' A'
  | 0, q', fm, s, I, A, M, R, P, h6, h1, h2 => by omega
  | q + 1, q', fm, s, I, A, M, R, P, h6, h1, h2 => by
    have hd := w.1.1
    have h16 := M.2.1
    obtain ⟨⟨m1, m2, m3, m4⟩, ⟨m5, m6, m7⟩, m8⟩ := id M
    have ed : nd s.1 = nd S := congrArg (fun q : Nat × (Nat → Nat) => q.1) m2
    have ev : nv s.1 = nv S := congrArg (fun q : Nat × (Nat → Nat) × (Nat → Nat → Nat) × (Nat → Int32) × (Nat → Nat) × (Nat → Nat → Nat) × (Nat → Nat → Nat) => q.1) m4
    have i0 : I 0 = nI (nd S) := by rw [← ed]; exact R.1.1
    rw [F_X9_make_38, md_gi0, Option.bind_some, i0]
    by_cases c : nd S ≤ fm
    · have eL : mkL (dr S) (nd S) q' fm s = s := by
        cases q' with
        | zero => rfl
        | succ q' => exact if_pos c
      rw [eL, if_pos (nI_le c (by omega)), show (0 : Int32) = nI 0 from rfl, md_pi0, Option.bind_some]
      have R1 : RM (S_d s.1 0 (dr S)) (upd I 0 (nI 0)) A := ⟨⟨upd_self, fun j hj => by have hj : j < 0 := hj; omega⟩, ⟨(upd_ne (by decide)).trans R.2.1.1, R.2.1.2⟩, ⟨(upd_ne (by decide)).trans R.2.2.1.1, R.2.2.1.2⟩, (upd_ne (by decide)).trans R.2.2.2.1, R.2.2.2.2⟩
      obtain ⟨I', A', e, R'⟩ := note_t (X := X) (Y := Y) (WF_d m1 (dr S)) R1 (n := s.2.1) (f := s.2.2.1) (c := s.2.2.2) ⟨(upd_ne (by decide)).trans P.1, (upd_ne (by decide)).trans P.2.1, P.2.2⟩ (by omega) (fun i hi => (m8 i hi).1) (by show nv s.1 < 30; omega) (-1)
      refine ⟨I', A', ?_, R'⟩
      rw [e, Option.bind_some]
      show some (nI (nv s.1), _) = _
      rw [ev]
    · obtain ⟨q'', rfl⟩ : ∃ q'', q' = q'' + 1 := ⟨q' - 1, by omega⟩
      obtain ⟨M', hm, hg, hb, h6', hc⟩ := mkI_step w M hr (by omega)
      have eL : mkL (dr S) (nd S) (q'' + 1) fm s = mkL (dr S) (nd S) q'' (fm + 16) (layS s.1 (mkm (nd S) fm) (fun k => dr S (fm + k)), s.2.1 + 1, updN s.2.2.1 s.2.1 (lkB s.1 (mkm (nd S) fm) (fun k => dr S (fm + k))), s.2.2.2 + layN s.1 (mkm (nd S) fm) (fun k => dr S (fm + k))) := if_neg c
      rw [eL, if_neg (nI_ge (by omega) (by omega)), Option.bind_some]
      have k69 : ∃ I' A', F_X9_make_69 (F_X9_make_38 q) 88 (nI fm) 88 (nI (mkm (nd S) fm)) (md X I A Y) = some (nI (nv S), md X I' A' Y) ∧ RM (S_v (S_d (mkL (dr S) (nd S) q'' (fm + 16) (layS s.1 (mkm (nd S) fm) (fun k => dr S (fm + k)), s.2.1 + 1, updN s.2.2.1 s.2.1 (lkB s.1 (mkm (nd S) fm) (fun k => dr S (fm + k))), s.2.2.2 + layN s.1 (mkm (nd S) fm) (fun k => dr S (fm + k)))).1 0 (dr S)) (mkL (dr S) (nd S) q'' (fm + 16) (layS s.1 (mkm (nd S) fm) (fun k => dr S (fm + k)), s.2.1 + 1, updN s.2.2.1 s.2.1 (lkB s.1 (mkm (nd S) fm) (fun k => dr S (fm + k))), s.2.2.2 + layN s.1 (mkm (nd S) fm) (fun k => dr S (fm + k)))).2.1 (mkL (dr S) (nd S) q'' (fm + 16) (layS s.1 (mkm (nd S) fm) (fun k => dr S (fm + k)), s.2.1 + 1, updN s.2.2.1 s.2.1 (lkB s.1 (mkm (nd S) fm) (fun k => dr S (fm + k))), s.2.2.2 + layN s.1 (mkm (nd S) fm) (fun k => dr S (fm + k)))).2.2.1 (-1) (mkL (dr S) (nd S) q'' (fm + 16) (layS s.1 (mkm (nd S) fm) (fun k => dr S (fm + k)), s.2.1 + 1, updN s.2.2.1 s.2.1 (lkB s.1 (mkm (nd S) fm) (fun k => dr S (fm + k))), s.2.2.2 + layN s.1 (mkm (nd S) fm) (fun k => dr S (fm + k)))).2.2.2) I' A' := by
        have R1 : RM s.1 (upd I 14 (nI (mkm (nd S) fm))) A := RM_IA R (fun k hk => upd_ne (by omega)) (fun _ _ => rfl)
        obtain ⟨A1, e1, R2, N2, g2⟩ := make_74 (X := X) (Y := Y) (K := F_X9_make_38 q) m2 hd ⟨hm.2.1, hm.2.2⟩ am_F (mkm (nd S) fm) 0 _ A R1 upd_self (by omega) (by show _ < 100000; omega) (fun i hi => by omega)
        have P2 : MP (upd I 14 (nI (mkm (nd S) fm))) A1 s.2.1 s.2.2.1 s.2.2.2 := ⟨(upd_ne (by decide)).trans P.1, (upd_ne (by decide)).trans P.2.1, fun j hj => by rw [g2 15 (by decide)]; exact P.2.2 j hj⟩
        obtain ⟨I3, A3, e3, R3, N3, P3, -⟩ := lay_t (X := X) (Y := Y) m1 R2 N2 P2 ⟨hm.1, hm.2.1⟩ hg (by omega) hb
        obtain ⟨I', A', e', R'⟩ := make_38 w hr hv q q'' (fm + 16) _ I3 A3 M' R3 P3 (by show s.2.1 + 1 ≤ 6; omega) (by omega) (by omega)
        refine ⟨I', A', ?_, R'⟩
        unfold F_X9_make_69
        rw [md_pi14, Option.bind_some]
        refine Eq.trans e1 ?_
        rw [e3, Option.bind_some]
        exact e'
      rw [nI_subN (by omega)]
      by_cases c2 : nd S - fm < 16
      · rw [if_neg (show ¬ (16 : Int32) ≤ nI (nd S - fm) from nI_ge (b := 16) c2 (by decide)), Option.bind_some, nI_subN (by omega)]
        have em : mkm (nd S) fm = nd S - fm := if_pos c2
        rw [← em]
        exact k69
      · rw [if_pos (show (16 : Int32) ≤ nI (nd S - fm) from nI_le (a := 16) (by omega) (by omega))]
        have em : mkm (nd S) fm = 16 := if_neg c2
        rw [em] at k69 ⊢
        exact k69
theorem m_make {I : Nat → Int32} {A : Nat → Nat → Int32} (w : WF S) (R : RM S I A) : ∃ I' A', F_X9_make 88 (md X I A Y) = some ((sp_make S).1, md X I' A' Y) ∧ RM (sp_make S).2 I' A' := by
  have hd := w.1.1
  unfold sp_make F_X9_make F_X9_make_b
  rw [md_obj, Option.bind_some, md_gi0, Option.bind_some, R.1.1]
  by_cases c0 : nd S = 0
  · rw [if_pos c0, if_pos (by rw [c0]; rfl)]
    exact ⟨I, A, rfl, R⟩
  · rw [if_neg c0, if_neg (nI_ne0 (by omega) (by omega)), Option.bind_some, show (16 : Int32) = nI 16 from rfl, nI_add, show nI (nd S + 16) - 1 = nI (nd S + 15) from pre_nI _, nI_div (by omega) (by omega), isFull_t w R (by omega), Option.bind_some]
    by_cases c1 : nv S < 30 ∧ nb S + (nd S + 15) / 16 ≤ 200
    · rw [if_pos c1, decide_eq_false (fun z => z c1), if_pos (show bI false = 0 from rfl)]
      obtain ⟨e1, R1, P1⟩ := begin_t (X := X) (Y := Y) R
      rw [e1, Option.bind_some]
      exact make_38 w c1.2 c1.1 am_F 7 0 (S, 0, fun _ => 0, 0) _ A (mkI_0 w) R1 (P1 _) (by show 0 ≤ 6; omega) (by omega) (by show _ < 100000; omega)
    · rw [if_neg c1, decide_eq_true c1, if_neg (show ¬ bI true = 0 by decide)]
      exact ⟨I, A, rfl, R⟩
end MKM
theorem o_make {Z : sZ} : am_op_make (Inv Z) := by
  rintro h ⟨S, pb, pv, X, I, A, Y, w, R, rfl, C, hn⟩
  obtain ⟨h1, pb1, pv1, e, C', k, K, ek⟩ := x_make w C
  obtain ⟨h2, e2, hI⟩ := Inv.fin (f := F_X9_make 88) (r := (sp_make S).1) (WF_make w).1 K.1 C' (by have := K.2; omega) (fun X Y => m_make w R)
  exact ⟨_, h1, h2, e, e2, hI⟩
