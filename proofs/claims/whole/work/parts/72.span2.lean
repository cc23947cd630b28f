/-! span: the reference's side -/
def mxI (g : Nat → Nat) (j : Nat) : Int32 := if j = 0 then -1 else nI (mx g j)
def moI (p : Nat × Nat) : Int32 := if p.1 = 0 then -1 else nI p.2
section SPM
variable {X : Fin 87 → am_C} {A : Nat → Nat → Int32} {Y : am_H} {S : sS}
theorem mspan_in {K : Nat → Int32 → Int32 → Int32 → Int32 → Int32 → Int32 → Int32 → Int32 → Int32 → Int32 → am_H → Option (Int32 × am_H)} (w : WF S) {v a m s o : Nat} {x su le ms be : Int32} (hv : v < nv S) (hm : a + m ≤ plc S v) (hs : s < 16) (ho : o ≤ m) : ∀ (q k j : Nat) (I : Nat → Int32), RM S I A → j + k = m → k < q →
    ∃ I', F_X9_span_192 K q 88 (nI v) (nI a) (nI (a + m)) x su le ms (nI o) be (nI s) (nI (cntN (fun j => sat S v (a + j) == s) j)) (nI (a + j)) (md X I A Y) = (if cAt S v a m s ≤ o then K 88 (nI v) (nI a) (nI (a + m)) x su le ms (nI o) be (nI (s + 1)) (md X I' A Y) else K 88 (nI v) (nI a) (nI (a + m)) x su le ms (nI (cAt S v a m s)) (nI s) (nI (s + 1)) (md X I' A Y)) ∧ RM S I' A
  | 0, k, j, I, R, h1, h2 => by omega
  | q + 1, 0, j, I, R, h1, h2 => by
    have hl := plc_le w hv
    have hc : cAt S v a m s ≤ m := cntN_le _ _
    refine ⟨I, ?_, R⟩
    rw [F_X9_span_192, if_pos (nI_le (by omega) (by omega)), show j = m by omega]
    show (if nI (cAt S v a m s) ≤ nI o then F_X9_span_243 K 88 (nI v) (nI a) (nI (a + m)) x su le ms (nI o) (nI s) (nI (cAt S v a m s)) be (md X I A Y) else F_X9_span_243 K 88 (nI v) (nI a) (nI (a + m)) x su le ms (nI o) (nI s) (nI (cAt S v a m s)) (nI s) (md X I A Y)) = _
    unfold F_X9_span_243 F_X9_span_259
    rw [nI_1]
    by_cases c : cAt S v a m s ≤ o
    · rw [if_pos (nI_le c (by omega)), if_pos (nI_le c (by omega)), if_pos c]
    · rw [if_neg (nI_ge (by omega) (by omega)), if_neg (nI_ge (by omega) (by omega)), if_neg c]
  | q + 1, k + 1, j, I, R, h1, h2 => by
    have hl := plc_le w hv
    have hj : j < m := by omega
    have hsa := sat_lt w hv (show a + j < plc S v by omega)
    obtain ⟨I', ih, R'⟩ := mspan_in (K := K) (x := x) (su := su) (le := le) (ms := ms) (be := be) w hv hm hs ho q k (j + 1) (upd (upd I 18 (nI (loc S v (a + j)).1)) 19 (nI (loc S v (a + j)).2)) (RM_f R _ _) (by omega) (by omega)
    refine ⟨I', ?_, R'⟩
    rw [show cntN (fun j => sat S v (a + j) == s) (j + 1) = cntN (fun j => sat S v (a + j) == s) j + bN (sat S v (a + j) == s) from rfl] at ih
    rw [F_X9_span_192, if_neg (nI_ge (by omega) (by omega)), signAt_spec w R hv (show a + j < plc S v by omega), Option.bind_some]
    unfold F_X9_span_217
    rw [one_spec, one_spec, Option.bind_some, Option.bind_some, oneI_1, oneI_z, nI_add, nI_add, nI_1]
    by_cases c : sat S v (a + j) = s
    · rw [show (sat S v (a + j) == s) = true by simpa using c] at ih
      rw [if_pos (by rw [c])]
      exact ih
    · rw [show (sat S v (a + j) == s) = false by simpa using c] at ih
      rw [if_neg (fun z => c ((nI_eq (by omega) (by omega)).mp z))]
      exact ih
theorem mspan_mid (w : WF S) {v a m x : Nat} (hv : v < nv S) (hm : a + m ≤ plc S v) (h0 : 0 < m) (hx : x ≤ 3) : ∀ (q k s : Nat) (I : Nat → Int32), RM S I A → s + k = 16 → k < q →
    ∃ I', F_X9_span_179 q 88 (nI v) (nI a) (nI (a + m)) (nI x) (nI (sumN (fun j => sat S v (a + j)) m)) (nI (mn (fun j => sat S v (a + j)) m)) (nI (mx (fun j => sat S v (a + j)) m)) (nI (mo (cAt S v a m) s).1) (moI (mo (cAt S v a m) s)) (nI s) (md X I A Y) = some (nI (spanV S v a m x), md X I' A Y) ∧ RM S I' A
  | 0, k, s, I, R, h1, h2 => by omega
  | q + 1, 0, s, I, R, h1, h2 => by
    refine ⟨I, ?_, R⟩
    have e : s = 16 := by omega
    subst e
    rw [F_X9_span_179, if_pos (show (16 : Int32) ≤ nI 16 by decide)]
    unfold F_X9_span_301 spanV
    have x0 : (nI x = (0 : Int32)) ↔ x = 0 := nI_eq (b := 0) (by omega) (by omega)
    have x1 : (nI x = (1 : Int32)) ↔ x = 1 := nI_eq (b := 1) (by omega) (by omega)
    have x2 : (nI x = (2 : Int32)) ↔ x = 2 := nI_eq (b := 2) (by omega) (by omega)
    by_cases c0 : x = 0
    · rw [if_pos (x0.mpr c0), if_pos c0]
    · rw [if_neg (fun z => c0 (x0.mp z)), if_neg c0]
      by_cases c1 : x = 1
      · rw [if_pos (x1.mpr c1), if_pos c1]
      · rw [if_neg (fun z => c1 (x1.mp z)), if_neg c1]
        by_cases c2 : x = 2
        · rw [if_pos (x2.mpr c2), if_pos c2]
        · rw [if_neg (fun z => c2 (x2.mp z)), if_neg c2]
          have h5 : 1 ≤ cAt S v a m (sat S v (a + 0)) := by
            unfold cAt
            have : ∀ n, 0 < n → 1 ≤ cntN (fun j => sat S v (a + j) == sat S v (a + 0)) n := by
              intro n
              induction n with
              | zero => intro z; omega
              | succ n ih =>
                intro z
                simp only [cntN]
                by_cases e : n = 0
                · subst e; simp [bN]
                · have := ih (by omega); omega
            exact this m h0
          have h6 := mo_ge (cAt S v a m) 16 (sat S v (a + 0)) (sat_lt w hv (by omega))
          unfold moI
          rw [if_neg (by omega)]
  | q + 1, k + 1, s, I, R, h1, h2 => by
    have hc2 := (mo_le (cAt S v a m) (M := m) s (fun s _ => cntN_le _ _)).1
    obtain ⟨I1, e1, R1⟩ := mspan_in (X := X) (Y := Y) (K := F_X9_span_179 q) (x := nI x) (su := nI (sumN (fun j => sat S v (a + j)) m)) (le := nI (mn (fun j => sat S v (a + j)) m)) (ms := nI (mx (fun j => sat S v (a + j)) m)) (be := moI (mo (cAt S v a m) s)) w hv hm (show s < 16 by omega) hc2 am_F m 0 I R (by omega) (by have := plc_le w hv; show _ < 100000; omega)
    obtain ⟨I2, e2, R2⟩ := mspan_mid w hv hm h0 hx q k (s + 1) I1 R1 (by omega) (by omega)
    refine ⟨I2, ?_, R2⟩
    rw [F_X9_span_179, if_neg (show ¬ (16 : Int32) ≤ nI s from nI_ge (b := 16) (by omega) (by omega))]
    rw [show cntN (fun j => sat S v (a + j) == s) 0 = 0 from rfl, Nat.add_zero] at e1
    rw [show (0 : Int32) = nI 0 from rfl, e1, ← e2]
    have em : mo (cAt S v a m) (s + 1) = if cAt S v a m s ≤ (mo (cAt S v a m) s).1 then mo (cAt S v a m) s else (cAt S v a m s, s) := rfl
    by_cases c : cAt S v a m s ≤ (mo (cAt S v a m) s).1
    · rw [if_pos c, em, if_pos c]
    · rw [if_neg c, em, if_neg c]
      unfold moI
      rw [if_neg (show ¬ (cAt S v a m s, s).1 = 0 by show ¬ cAt S v a m s = 0; omega)]
theorem mspan_out (w : WF S) {v a m x : Nat} (hv : v < nv S) (hm : a + m ≤ plc S v) (h0 : 0 < m) (hx : x ≤ 3) : ∀ (q k j : Nat) (I : Nat → Int32), RM S I A → j + k = m → k < q → (∀ i, i < j → tat S v (a + i) = false) →
    ∃ I', F_X9_span_79 q 88 (nI v) (nI a) (nI (a + m)) (nI x) (nI (sumN (fun j => sat S v (a + j)) j)) (nI (mn (fun j => sat S v (a + j)) j)) (mxI (fun j => sat S v (a + j)) j) (nI 0) (-1) (nI (a + j)) (md X I A Y) = some (if anyN (fun j => tat S v (a + j)) m = true then -100005 else nI (spanV S v a m x), md X I' A Y) ∧ RM S I' A
  | 0, k, j, I, R, h1, h2, h3 => by omega
  | q + 1, 0, j, I, R, h1, h2, h3 => by
    have hl := plc_le w hv
    have e : j = m := by omega
    subst e
    rw [F_X9_span_79, if_pos (nI_le (by omega) (by omega)), (anyN_f j).mpr (fun i hi => h3 i hi), if_neg (by decide)]
    unfold mxI
    rw [if_neg (by omega)]
    exact mspan_mid w hv hm h0 hx am_F 16 0 I R (by omega) (by show _ < 100000; omega)
  | q + 1, k + 1, j, I, R, h1, h2, h3 => by
    have hl := plc_le w hv
    have hj : j < m := by omega
    have hp : a + j < plc S v := by omega
    have hsa := sat_lt w hv hp
    obtain ⟨l1, l2, l3⟩ := loc_spec hp
    have hb := (w.2.2.2.2 v hv).1.2 _ l1
    have R2 := RM_f R (nI (loc S v (a + j)).1) (nI (loc S v (a + j)).2)
    have e18 : (upd (upd I 18 (nI (loc S v (a + j)).1)) 19 (nI (loc S v (a + j)).2)) 18 = nI (loc S v (a + j)).1 := rfl
    have e19 : (upd (upd I 18 (nI (loc S v (a + j)).1)) 19 (nI (loc S v (a + j)).2)) 19 = nI (loc S v (a + j)).2 := rfl
    rw [F_X9_span_79, if_neg (nI_ge (by omega) (by omega)), find_spec w R hv hp, Option.bind_some, md_gr5, Option.bind_some, md_gi18, e18, Option.bind_some, A8 w R2 hv l1, Option.bind_some, A5 w R2 hb, Option.bind_some]
    cases ht : tn S (rw_ S v (loc S v (a + j)).1) with
    | true =>
      rw [if_neg (show ¬ bI true = 0 by decide), if_pos (anyN_t.mpr ⟨j, hj, ht⟩)]
      exact ⟨_, rfl, R2⟩
    | false =>
      rw [if_pos (show bI false = 0 from rfl), Option.bind_some, A8 w R2 hv l1, Option.bind_some, md_gi19, e19, Option.bind_some, A4 w R2 hb l2, Option.bind_some]
      obtain ⟨I', e, R'⟩ := mspan_out w hv hm h0 hx q k (j + 1) _ R2 (by omega) (by omega) (fun i hi => by
        by_cases z : i = j
        · rw [z]; exact ht
        · exact h3 i (by omega))
      refine ⟨I', ?_, R'⟩
      rw [← e]
      have hmn := mn_le (fun j => sat S v (a + j)) j
      have hmx := mx_le (fun j => sat S v (a + j)) (c := 16) j (fun i hi => by have := sat_lt w hv (show a + i < plc S v by omega); show sat S v (a + i) ≤ 16; omega)
      show (if nI (mn (fun j => sat S v (a + j)) j) ≤ nI (sat S v (a + j)) then F_X9_span_152 _ 88 (nI v) (nI a) (nI (a + m)) (nI x) (nI (sumN (fun j => sat S v (a + j)) j) + nI (sat S v (a + j))) (mxI (fun j => sat S v (a + j)) j) (nI 0) (-1) (nI (a + j)) (nI (sat S v (a + j))) _ _ else F_X9_span_152 _ 88 (nI v) (nI a) (nI (a + m)) (nI x) (nI (sumN (fun j => sat S v (a + j)) j) + nI (sat S v (a + j))) (mxI (fun j => sat S v (a + j)) j) (nI 0) (-1) (nI (a + j)) (nI (sat S v (a + j))) (nI (sat S v (a + j))) _) = _
      have e1 : mn (fun j => sat S v (a + j)) (j + 1) = if sat S v (a + j) < mn (fun j => sat S v (a + j)) j then sat S v (a + j) else mn (fun j => sat S v (a + j)) j := rfl
      have e2 : mx (fun j => sat S v (a + j)) (j + 1) = if mx (fun j => sat S v (a + j)) j < sat S v (a + j) then sat S v (a + j) else mx (fun j => sat S v (a + j)) j := rfl
      have key : ∀ L : Int32, F_X9_span_152 (F_X9_span_79 q) 88 (nI v) (nI a) (nI (a + m)) (nI x) (nI (sumN (fun j => sat S v (a + j)) j) + nI (sat S v (a + j))) (mxI (fun j => sat S v (a + j)) j) (nI 0) (-1) (nI (a + j)) (nI (sat S v (a + j))) L (md X (upd (upd I 18 (nI (loc S v (a + j)).1)) 19 (nI (loc S v (a + j)).2)) A Y) = F_X9_span_79 q 88 (nI v) (nI a) (nI (a + m)) (nI x) (nI (sumN (fun j => sat S v (a + j)) (j + 1))) L (mxI (fun j => sat S v (a + j)) (j + 1)) (nI 0) (-1) (nI (a + (j + 1))) (md X (upd (upd I 18 (nI (loc S v (a + j)).1)) 19 (nI (loc S v (a + j)).2)) A Y) := by
        intro L
        unfold F_X9_span_152 F_X9_span_168
        rw [nI_1, nI_add]
        unfold mxI
        rw [if_neg (show ¬ j + 1 = 0 by omega), e2]
        by_cases z : j = 0
        · rw [if_pos z, if_neg (show ¬ nI (sat S v (a + j)) ≤ -1 by
            rw [Int32.le_iff_toInt_le, nI_toInt (by omega)]
            have : (-1 : Int32).toInt = -1 := by decide
            omega)]
          have : (if mx (fun j => sat S v (a + j)) j < sat S v (a + j) then sat S v (a + j) else mx (fun j => sat S v (a + j)) j) = sat S v (a + j) := by
            rw [show mx (fun j => sat S v (a + j)) j = 0 by rw [z]; rfl]
            split <;> omega
          rw [this]
          rfl
        · rw [if_neg z]
          by_cases c : mx (fun j => sat S v (a + j)) j < sat S v (a + j)
          · rw [if_neg (nI_ge c (by omega)), if_pos c]
            rfl
          · rw [if_pos (nI_le (by omega) (by omega)), if_neg c]
            rfl
      by_cases c : sat S v (a + j) < mn (fun j => sat S v (a + j)) j
      · rw [if_neg (nI_ge c (by omega)), e1, if_pos c]
        exact key _
      · rw [if_pos (nI_le (by omega) (by omega)), e1, if_neg c]
        exact key _
theorem m_span {I : Nat → Int32} (w : WF S) (R : RM S I A) (v a b x : Int32) : ∃ I' A', F_X9_span 88 v a b x (md X I A Y) = some (sp_span S v a b x, md X I' A' Y) ∧ RM S I' A' := by
  unfold sp_span F_X9_span F_X9_span_b F_X9_span_41
  rw [md_obj, Option.bind_some]
  by_cases hv : vd (nv S) v
  · obtain ⟨u, hu, rfl⟩ := nI_of_toInt hv.1 hv.2
    have hn := w.2.2.2.1
    have hl := plc_le w hu
    rw [cl_nI (show u < 2 ^ 31 by omega), noV_t w R hv, Option.bind_some, if_pos rfl, placesOf_spec w R hu, Option.bind_some, in_spec, Option.bind_some, Int32.toInt_toInt64, Int32.toInt_toInt64, nI_toInt (show plc S u < 2 ^ 31 by omega), show (0 : Int64).toInt = 0 from rfl]
    by_cases c1 : 0 ≤ a.toInt ∧ a.toInt ≤ (plc S u : Int)
    · rw [if_pos c1, if_neg i1ne0, Option.bind_some, in_spec, Option.bind_some, Int32.toInt_toInt64, Int32.toInt_toInt64, Int32.toInt_toInt64, nI_toInt (show plc S u < 2 ^ 31 by omega)]
      have ea : (a + 1).toInt = a.toInt + 1 := by
        rw [Int32.toInt_add, show (1 : Int32).toInt = 1 from rfl]
        exact Int.bmod_eq_of_le (by omega) (by omega)
      rw [ea]
      by_cases c2 : a.toInt + 1 ≤ b.toInt ∧ b.toInt ≤ (plc S u : Int)
      · rw [if_pos c2, if_neg i1ne0, in_spec, Option.bind_some, Int32.toInt_toInt64, show (0 : Int64).toInt = 0 from rfl, show (3 : Int64).toInt = 3 from rfl, if_pos (show vd (nv S) (nI u) ∧ 0 ≤ a.toInt ∧ a.toInt < b.toInt ∧ b.toInt ≤ plc S u from ⟨hv, by omega, by omega, by omega⟩)]
        by_cases c3 : 0 ≤ x.toInt ∧ x.toInt ≤ 3
        · rw [if_pos c3, if_neg i1ne0, if_pos c3]
          obtain ⟨z, hz, rfl⟩ := nI_of_toInt (n := 4) (v := x) (by omega) (by omega)
          obtain ⟨a', ha, rfl⟩ := nI_of_toInt (n := plc S u) (v := a) (by omega) (by omega)
          obtain ⟨b', hb, rfl⟩ := nI_of_toInt (n := plc S u + 1) (v := b) (by omega) (by omega)
          rw [nI_toInt (by omega), nI_toInt (by omega)] at c2
          rw [cl_nI (by omega), cl_nI (by omega), cl_nI (by omega)]
          obtain ⟨I', e, R'⟩ := mspan_out (X := X) (Y := Y) w hu (show a' + (b' - a') ≤ plc S u by omega) (show 0 < b' - a' by omega) (show z ≤ 3 by omega) am_F (b' - a') 0 I R (by omega) (by show _ < 100000; omega) (fun i hi => by omega)
          refine ⟨I', A, ?_, R'⟩
          rw [show a' + (b' - a') = b' by omega] at e
          exact e
        · rw [if_neg c3, if_pos rfl, if_neg c3]
          exact ⟨I, A, rfl, R⟩
      · rw [if_neg c2, if_pos rfl, if_neg (fun q => by omega)]
        exact ⟨I, A, rfl, R⟩
    · rw [if_neg c1, if_pos rfl, if_neg (fun q => by omega)]
      exact ⟨I, A, rfl, R⟩
  · rw [if_neg (fun q => hv q.1), noV_f w R hv, Option.bind_some, if_neg i1ne0]
    exact ⟨I, A, rfl, R⟩
end SPM
section OPS6
variable {Z : sZ}
theorem o_span : am_op_span (Inv Z) := by
  rintro h a0 a1 a2 a3 ⟨S, pb, pv, X, I, A, Y, w, R, rfl, C, hn⟩
  obtain ⟨h1, e, C', F⟩ := x_span w C a0 a1 a2 a3
  obtain ⟨h2, e2, hI⟩ := Inv.fin (f := F_X9_span 88 a0 a1 a2 a3) (r := sp_span S a0 a1 a2 a3) w (fun q q1 q2 => F.2.2 q (by omega)) C' (by rw [F.2.1]; exact hn) (fun X Y => m_span w R a0 a1 a2 a3)
  exact ⟨_, h1, h2, e, e2, hI⟩
end OPS6
