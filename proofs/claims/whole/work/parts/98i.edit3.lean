/-! change, put, strike of the class -/
def XG (Z : sZ) (S : sS) (h : am_H) (r : Int32 × sS) (o : Option (Int32 × am_H)) : Prop := ∃ h' pb' pv', o = some (r.1, h') ∧ RX Z r.2 pb' pv' h' ∧ (∃ k, Kp h h' k ∧ nb S + nv S + k = nb r.2 + nv r.2) ∧ WF r.2
section EX3
variable {Z : sZ} {S : sS} {pb pv : Nat → Nat} {h : am_H}
theorem XG.no (w : WF S) (C : RX Z S pb pv h) (c : Int32) : XG Z S h (c, S) (some (c, h)) := ⟨h, pb, pv, rfl, C, ⟨0, Kp.fr Fr.rf (fun _ _ _ => fun z => z), rfl⟩, w⟩
theorem edited_no (w : WF S) (C : RX Z S pb pv h) {v : Nat} {P x k' : Int32} (hv : v < nv S) (h0 : ¬ trn S v = 0) : F_X8_edited 1 (nI v) P x k' h = some (-100005, h) := by
  have := trn_le w hv
  unfold F_X8_edited F_X8_edited_b
  rw [C.ob, versionOf_t w C hv, Option.bind_some, if_neg (rD_ne _), tornBlocks_t w C hv, Option.bind_some, if_neg (show ¬ nI (trn S v) ≤ 0 from nI_ge (a := 0) (by omega) (by omega))]
theorem XG.ed (w : WF S) (C : RX Z S pb pv h) {v i st p m : Nat} {g : Nat → Nat} {P x k' : Int32} (hv : v < nv S) (h0 : trn S v = 0) (h30 : nv S < 30) (hi : i ≤ rl S v) (e1 : F_X8_indexAt 1 (rD (pv v)) P h = some (nI i)) (e2 : F_X8_startOf 1 (rD (pv v)) (nI i) h = some (nI st)) (e3 : P - nI st = nI p) (e4 : ∃ h1 f, F_X8_spell 1 (rD (pv v)) (nI i) (nI p) x k' h = some h1 ∧ RX Z S pb pv h1 ∧ Fr (fun q => q = 10 ∨ q = 11) h h1 ∧ RowAt h1 10 25 m f ∧ ∀ k, k < m → f k = nI (g k)) (hg : ∀ k, k < m → g k < 16) (hm : m ≤ 25) (hb : nb S + lys m ≤ 200) (hn : i + lys m + (rl S v - (i + 1)) ≤ 8) : XG Z S h (edR S v i m g) ((F_X8_edited 1 (nI v) P x k' h).bind fun q => some (q.1, q.2)) := by
  obtain ⟨h', pb', pv', e, C', K⟩ := edited_t w C hv h0 h30 hi e1 e2 e3 e4 hg hb hn
  have M0 := edI_0 w hv h0 hi
  obtain ⟨Mp, en⟩ := edI_pl (g := g) M0 hm hg hb
  have en : (plS (ed0 S v i) m g).2.1 = i + lys m := en
  have W := WF_ed w hv h0 (i := i) Mp (by rw [en]; omega) h30
  refine ⟨h', pb', pv', ?_, C', ⟨_, K, W.2.symm⟩, W.1⟩
  rw [e, Option.bind_some]
  rfl
theorem x_change (w : WF S) (C : RX Z S pb pv h) (v p x : Int32) : XG Z S h (sp_change S v p x) (F_X8_change 1 v p x h) := by
  unfold sp_change F_X8_change F_X8_change_b F_X8_change_25
  rw [C.ob]
  by_cases c0 : vd (nv S) v
  · obtain ⟨a, ha, rfl⟩ := nI_of_toInt c0.1 c0.2
    have hw := w.2.2.2.1
    have hp := plc_le w ha
    have V := C.2.2.2.2.2.2.1 a ha
    rw [cl_nI (by omega), versionOf_t w C ha, Option.bind_some, if_neg (rD_ne _), V.f.2.2.2.1, Option.bind_some]
    have a0 : (p < (0 : Int32)) ↔ p.toInt < 0 := (lt_lit (x := p) (n := 0) (by decide)).1
    have a1 : (p < nI (plc S a)) ↔ p.toInt < plc S a := (lt_lit (x := p) (n := plc S a) (by omega)).1
    by_cases c1 : vd (plc S a) p
    · rw [if_pos (show vd (nv S) (nI a) ∧ vd (plc S a) p from ⟨c0, c1⟩), if_neg (show ¬ p < 0 from fun q => by have := a0.mp q; have := c1.1; omega), if_pos (a1.mpr c1.2), isSign_spec, Option.bind_some]
      by_cases c2 : 0 ≤ x.toInt ∧ x.toInt ≤ 15
      · rw [if_pos c2, if_pos c2, if_neg (show ¬ (1 : Int32) = 0 by decide), show (1 : Int32) = nI 1 from rfl, hasRoom_t w C (by omega), Option.bind_some]
        by_cases c3 : roomS S 1
        · rw [if_pos c3, decide_eq_true (show nv S < 30 ∧ nb S + 1 ≤ 200 from c3), if_neg (show ¬ bI true = 0 by decide)]
          by_cases c4 : trn S a = 0
          · rw [if_pos c4]
            obtain ⟨b, hb, rfl⟩ := nI_of_toInt c1.1 c1.2
            obtain ⟨y, hy, rfl⟩ := nI_of_toInt (n := 16) c2.1 (by have := c2.2; omega)
            rw [cl_nI (show b < 2 ^ 31 by omega), cl_nI (show y < 2 ^ 31 by omega)]
            obtain ⟨l1, l2, l3⟩ := loc_spec hb
            have hbk := (w.2.2.2.2 a ha).1.2 _ l1
            have hr := (w.2.2.2.2 a ha).1.1
            have hl := w.2.2.1.2 _ hbk
            obtain ⟨h1, m, f, s1, s2, s3, s4, -, s5⟩ := spell_some w C ha l1 (trn_0 c4 _ l1) (k' := 1) (p := (loc S a b).2) (by omega) (by omega) (nI y) (Or.inr ⟨y, hy, rfl⟩)
            obtain ⟨em, s6⟩ := s5 y hy rfl
            have em : m = ln S (rw_ S a (loc S a b).1) := by omega
            subst em
            have c3 := id c3
            refine XG.ed w C ha c4 c3.1 (by omega) (indexAt_t w C ha hb) (startOf_t w C ha (by omega)) (by rw [nI_subN (by omega)]; exact congrArg nI (by omega)) ⟨h1, f, s1, s2, s3, s4, s6⟩ (fun k hk => gS_lt hl.2 (by omega) hy (by omega) (by omega) k (by omega)) (by omega) (by unfold lys; rw [if_neg (by omega), if_pos (by omega)]; exact c3.2) (by unfold lys; rw [if_neg (by omega), if_pos (by omega)]; omega)
          · rw [if_neg c4, edited_no w C ha c4]
            exact XG.no w C _
        · rw [if_neg c3, decide_eq_false (show ¬ (nv S < 30 ∧ nb S + 1 ≤ 200) from c3), if_pos (show bI false = 0 from rfl)]
          exact XG.no w C _
      · rw [if_neg c2, if_neg c2, if_pos rfl]
        exact XG.no w C _
    · rw [if_neg (show ¬ (vd (nv S) (nI a) ∧ vd (plc S a) p) from fun z => c1 z.2)]
      by_cases c2 : p.toInt < 0
      · rw [if_pos (a0.mpr c2)]; exact XG.no w C _
      · rw [if_neg (fun q => c2 (a0.mp q)), if_neg (fun q => c1 ⟨by omega, a1.mp q⟩)]; exact XG.no w C _
  · rw [versionOf_f w C c0, Option.bind_some, if_pos rfl, if_neg (fun z => c0 z.1)]
    exact XG.no w C _
theorem x_strike (w : WF S) (C : RX Z S pb pv h) (v p : Int32) : XG Z S h (sp_strike S v p) (F_X8_strike 1 v p h) := by
  unfold sp_strike F_X8_strike F_X8_strike_b F_X8_strike_22 F_X8_strike_45 F_X8_strike_58
  rw [C.ob]
  by_cases c0 : vd (nv S) v
  · obtain ⟨a, ha, rfl⟩ := nI_of_toInt c0.1 c0.2
    have hw := w.2.2.2.1
    have hp := plc_le w ha
    have V := C.2.2.2.2.2.2.1 a ha
    rw [cl_nI (by omega), versionOf_t w C ha, Option.bind_some, if_neg (rD_ne _), V.f.2.2.2.1, Option.bind_some]
    have a0 : (p < (0 : Int32)) ↔ p.toInt < 0 := (lt_lit (x := p) (n := 0) (by decide)).1
    have a1 : (p < nI (plc S a)) ↔ p.toInt < plc S a := (lt_lit (x := p) (n := plc S a) (by omega)).1
    by_cases c1 : vd (plc S a) p
    · rw [if_pos (show vd (nv S) (nI a) ∧ vd (plc S a) p from ⟨c0, c1⟩), if_neg (show ¬ p < 0 from fun q => by have := a0.mp q; have := c1.1; omega), if_pos (a1.mpr c1.2)]
      obtain ⟨b, hb, rfl⟩ := nI_of_toInt c1.1 c1.2
      rw [cl_nI (show b < 2 ^ 31 by omega)]
      obtain ⟨l1, l2, l3⟩ := loc_spec hb
      have hbk := (w.2.2.2.2 a ha).1.2 _ l1
      have hr := (w.2.2.2.2 a ha).1.1
      have hl := w.2.2.1.2 _ hbk
      rw [indexAt_t w C ha hb, Option.bind_some, lengthIn_t w C ha l1, Option.bind_some]
      have main : ∀ k : Nat, k = kLen (ln S (rw_ S a (loc S a b).1)) → XG Z S h (if roomS S (kLen (ln S (rw_ S a (loc S a b).1))) then (if trn S a = 0 then edR S a (loc S a b).1 (ln S (rw_ S a (loc S a b).1) - 1) (gK (sg S (rw_ S a (loc S a b).1)) (loc S a b).2) else (-100005, S)) else (-100004, S)) ((F_X8_hasRoom 1 (nI k) h).bind fun x1 => if x1 = 0 then some ((-100004 : Int32), h) else (F_X8_edited 1 (nI a) (nI b) (-1 : Int32) (1 : Int32) h).bind fun q3 => some (q3.1, q3.2)) := fun k hk => by
        rw [← hk]
        have hk1 : k ≤ 1 := by rw [hk]; unfold kLen; split <;> omega
        rw [hasRoom_t w C (by omega), Option.bind_some]
        by_cases c3 : roomS S k
        · rw [if_pos c3, decide_eq_true (show nv S < 30 ∧ nb S + k ≤ 200 from c3), if_neg (show ¬ bI true = 0 by decide)]
          by_cases c4 : trn S a = 0
          · rw [if_pos c4]
            obtain ⟨h1, m, f, s1, s2, s3, s4, s5, -⟩ := spell_some w C ha l1 (trn_0 c4 _ l1) (k' := 1) (p := (loc S a b).2) (by omega) (by omega) (-1) (Or.inl rfl)
            obtain ⟨em, s6⟩ := s5 rfl
            subst em
            have c3 := id c3
            have hly : lys (ln S (rw_ S a (loc S a b).1) - 1) = k := by
              rw [hk]; unfold lys kLen
              by_cases z : ln S (rw_ S a (loc S a b).1) = 1
              · rw [if_pos (by omega), if_pos z]
              · rw [if_neg (by omega), if_pos (by omega), if_neg z]
            exact XG.ed w C ha c4 c3.1 (by omega) (indexAt_t w C ha hb) (startOf_t w C ha (by omega)) (by rw [nI_subN (by omega)]; exact congrArg nI (by omega)) ⟨h1, f, s1, s2, s3, s4, s6⟩ (gK_lt hl.2 l2) (by omega) (by rw [hly]; exact c3.2) (by rw [hly]; omega)
          · rw [if_neg c4, edited_no w C ha c4]
            exact XG.no w C _
        · rw [if_neg c3, decide_eq_false (show ¬ (nv S < 30 ∧ nb S + k ≤ 200) from c3), if_pos (show bI false = 0 from rfl)]
          exact XG.no w C _
      have e1 : (nI (ln S (rw_ S a (loc S a b).1)) = (1 : Int32)) ↔ ln S (rw_ S a (loc S a b).1) = 1 := nI_eq (b := 1) (by omega) (by decide)
      by_cases z : ln S (rw_ S a (loc S a b).1) = 1
      · rw [if_pos (e1.mpr z), if_neg (show ¬ (1 : Int32) = 0 by decide)]
        exact main 0 (by unfold kLen; rw [if_pos z])
      · rw [if_neg (fun q => z (e1.mp q)), if_pos rfl]
        exact main 1 (by unfold kLen; rw [if_neg z])
    · rw [if_neg (show ¬ (vd (nv S) (nI a) ∧ vd (plc S a) p) from fun z => c1 z.2)]
      by_cases c2 : p.toInt < 0
      · rw [if_pos (a0.mpr c2)]; exact XG.no w C _
      · rw [if_neg (fun q => c2 (a0.mp q)), if_neg (fun q => c1 ⟨by omega, a1.mp q⟩)]; exact XG.no w C _
  · rw [versionOf_f w C c0, Option.bind_some, if_pos rfl, if_neg (fun z => c0 z.1)]
    exact XG.no w C _
theorem lengthP (w : WF S) (C : RX Z S pb pv h) {v p : Nat} (hv : v < nv S) (hp : p ≤ plc S v) : F_X8_lengthIn 1 (rD (pv v)) (nI (ixP S v p)) h = some (nI (lnP S v p)) := by
  obtain ⟨p1, p2, p3, p4, p5, p6, p7⟩ := putP w hv hp
  by_cases c : rl S v = 0
  · obtain ⟨q1, q2, q3⟩ := p5 c
    have V := C.2.2.2.2.2.2.1 v hv
    obtain ⟨fr, rr, hrr⟩ := V.2.1
    rw [q1, q3]
    unfold F_X8_lengthIn F_X8_lengthIn_b F_X8_lengthIn_28
    rw [C.ob, V.f.1, Option.bind_some, row_at_out rr (fun z => by unfold vd at z; rw [nI_toInt (by omega)] at z; omega), Option.bind_some, blockOf_f w C (fun z => by have := z.1; rw [show (-1 : Int32).toInt = -1 by decide] at this; omega), Option.bind_some, if_pos rfl]
    rfl
  · rw [p7 c]; exact lengthIn_t w C hv (p2 c)
theorem x_put (w : WF S) (C : RX Z S pb pv h) (v p x : Int32) : XG Z S h (sp_put S v p x) (F_X8_put 1 v p x h) := by
  unfold sp_put F_X8_put F_X8_put_b F_X8_put_25 F_X8_put_61 F_X8_put_74 F_X8_put_98 F_X8_put_101
  rw [C.ob]
  by_cases c0 : vd (nv S) v
  · obtain ⟨a, ha, rfl⟩ := nI_of_toInt c0.1 c0.2
    have hw := w.2.2.2.1
    have hp := plc_le w ha
    have V := C.2.2.2.2.2.2.1 a ha
    rw [cl_nI (by omega), versionOf_t w C ha, Option.bind_some, if_neg (rD_ne _), V.f.2.2.2.1, Option.bind_some]
    have a0 : (p < (0 : Int32)) ↔ p.toInt < 0 := (lt_lit (x := p) (n := 0) (by decide)).1
    have a1 : (p ≤ nI (plc S a)) ↔ p.toInt ≤ plc S a := (lt_lit (x := p) (n := plc S a) (by omega)).2.2.1
    by_cases c1 : vd (plc S a + 1) p
    · rw [if_pos (show vd (nv S) (nI a) ∧ vd (plc S a + 1) p from ⟨c0, c1⟩), if_neg (show ¬ p < 0 from fun q => by have := a0.mp q; have := c1.1; omega), if_pos (a1.mpr (by have := c1.2; omega)), isSign_spec, Option.bind_some]
      by_cases c2 : 0 ≤ x.toInt ∧ x.toInt ≤ 15
      · rw [if_pos c2, if_pos c2, if_neg (show ¬ (1 : Int32) = 0 by decide)]
        obtain ⟨b, hb, rfl⟩ := nI_of_toInt c1.1 c1.2
        obtain ⟨y, hy, rfl⟩ := nI_of_toInt (n := 16) c2.1 (by have := c2.2; omega)
        rw [cl_nI (show b < 2 ^ 31 by omega), cl_nI (show y < 2 ^ 31 by omega)]
        have hb : b ≤ plc S a := by omega
        obtain ⟨p1, p2, p3, p4, p5, p6, p7⟩ := putP w ha hb
        have hr := (w.2.2.2.2 a ha).1.1
        rw [indexP w C ha hb, Option.bind_some, lengthP w C ha hb, Option.bind_some]
        have fin : (roomS S (kPut (lnP S a b)) ∧ ¬ (lnP S a b = 24 ∧ rl S a = 8)) → XG Z S h (if trn S a = 0 then edR S a (ixP S a b) (lnP S a b + 1) (gS (sg S (rw_ S a (ixP S a b))) (ofP S a b) y 0) else (-100005, S)) ((F_X8_edited 1 (nI a) (nI b) (nI y) (nI 0) h).bind fun q1 => some (q1.1, q1.2)) := fun ⟨c3, c5⟩ => by
          by_cases c4 : trn S a = 0
          · rw [if_pos c4]
            have hly : lys (lnP S a b + 1) = kPut (lnP S a b) := by
              unfold lys kPut
              by_cases z : lnP S a b = 24
              · rw [if_neg (by omega), if_neg (by omega), if_pos z]
              · rw [if_neg (by omega), if_pos (by omega), if_neg z]
            have hk : kPut (lnP S a b) ≤ 2 ∧ (kPut (lnP S a b) = 2 → lnP S a b = 24) := by
              unfold kPut
              by_cases z : lnP S a b = 24
              · rw [if_pos z]; exact ⟨by omega, fun _ => z⟩
              · rw [if_neg z]; exact ⟨by omega, fun q => by omega⟩
            have e4 : ∃ h1 f, F_X8_spell 1 (rD (pv a)) (nI (ixP S a b)) (nI (ofP S a b)) (nI y) (nI 0) h = some h1 ∧ RX Z S pb pv h1 ∧ Fr (fun q => q = 10 ∨ q = 11) h h1 ∧ RowAt h1 10 25 (lnP S a b + 1) f ∧ ∀ k, k < lnP S a b + 1 → f k = nI (gS (sg S (rw_ S a (ixP S a b))) (ofP S a b) y 0 k) := by
              by_cases z : rl S a = 0
              · obtain ⟨q1, q2, q3⟩ := p5 z
                rw [q2, q3, q1]
                obtain ⟨h1, f, s1, s2, s3, s4, s5⟩ := spell_none w C ha z hy
                exact ⟨h1, f, s1, s2, s3, s4, fun k hk => by rw [s5 k hk]; unfold gS; rw [if_neg (by omega), if_pos (by omega)]⟩
              · have l1 := p2 z
                have e7 := p7 z
                rw [e7]
                rw [e7] at p3
                obtain ⟨h1, m, f, s1, s2, s3, s4, -, s5⟩ := spell_some w C ha l1 (trn_0 c4 _ l1) (k' := 0) (p := ofP S a b) (by omega) (by omega) (nI y) (Or.inr ⟨y, hy, rfl⟩)
                obtain ⟨em, s6⟩ := s5 y hy rfl
                have em : m = ln S (rw_ S a (ixP S a b)) + 1 := by omega
                subst em
                exact ⟨h1, f, s1, s2, s3, s4, s6⟩
            have hg : ∀ k, k < lnP S a b + 1 → gS (sg S (rw_ S a (ixP S a b))) (ofP S a b) y 0 k < 16 := by
              by_cases z : rl S a = 0
              · obtain ⟨q1, q2, q3⟩ := p5 z
                rw [q2, q3]
                exact fun k hk => by unfold gS; rw [if_neg (by omega), if_pos (by omega)]; exact hy
              · have hbk := (w.2.2.2.2 a ha).1.2 _ (p2 z)
                have hl := w.2.2.1.2 _ hbk
                have e7 := p7 z
                exact fun k hk => gS_lt hl.2 (by omega) hy (by omega) (by omega) k (by omega)
            have hn8 : ixP S a b + kPut (lnP S a b) + (rl S a - (ixP S a b + 1)) ≤ 8 := by
              by_cases z : rl S a = 0
              · obtain ⟨q1, q2, q3⟩ := p5 z
                omega
              · have := p2 z
                by_cases z8 : rl S a = 8
                · have : ¬ lnP S a b = 24 := fun q => c5 ⟨q, z8⟩
                  have : ¬ kPut (lnP S a b) = 2 := fun q => this (hk.2 q)
                  omega
                · omega
            exact XG.ed w C ha c4 c3.1 p1 (indexP w C ha hb) (startOf_t w C ha p1) (by rw [nI_subN (by omega)]; exact congrArg nI (by omega)) e4 hg (by omega) (by rw [hly]; exact c3.2) (by rw [hly]; exact hn8)
          · rw [if_neg c4, edited_no w C ha c4]
            exact XG.no w C _
        have e1 : (nI (lnP S a b) = (24 : Int32)) ↔ lnP S a b = 24 := nI_eq (b := 24) (by omega) (by decide)
        obtain ⟨fr, rr, hrr⟩ := V.2.1
        by_cases z : lnP S a b = 24
        · have ek : kPut (lnP S a b) = 2 := by unfold kPut; rw [if_pos z]
          rw [if_pos (e1.mpr z), if_neg (show ¬ (1 : Int32) = 0 by decide), show (2 : Int32) = nI 2 from rfl, hasRoom_t w C (by omega), Option.bind_some]
          by_cases c3 : roomS S 2
          · rw [decide_eq_true (show nv S < 30 ∧ nb S + 2 ≤ 200 from c3), if_neg (show ¬ bI true = 0 by decide), if_neg (show ¬ (1 : Int32) = 0 by decide), V.f.1, Option.bind_some, row_length rr, Option.bind_some]
            have e8 : (nI (rl S a) = (8 : Int32)) ↔ rl S a = 8 := nI_eq (b := 8) (by omega) (by decide)
            by_cases z8 : rl S a = 8
            · rw [if_pos (e8.mpr z8), if_neg (show ¬ (roomS S (kPut (lnP S a b)) ∧ ¬ (lnP S a b = 24 ∧ rl S a = 8)) from fun q => q.2 ⟨z, z8⟩)]
              exact XG.no w C _
            · rw [if_neg (fun q => z8 (e8.mp q)), if_pos (show roomS S (kPut (lnP S a b)) ∧ ¬ (lnP S a b = 24 ∧ rl S a = 8) from ⟨by rw [ek]; exact c3, fun q => z8 q.2⟩)]
              exact fin ⟨by rw [ek]; exact c3, fun q => z8 q.2⟩
          · rw [decide_eq_false (show ¬ (nv S < 30 ∧ nb S + 2 ≤ 200) from c3), if_pos (show bI false = 0 from rfl), if_neg (show ¬ (roomS S (kPut (lnP S a b)) ∧ ¬ (lnP S a b = 24 ∧ rl S a = 8)) from fun q => c3 (by rw [← ek]; exact q.1))]
            exact XG.no w C _
        · have ek : kPut (lnP S a b) = 1 := by unfold kPut; rw [if_neg z]
          rw [if_neg (fun q => z (e1.mp q)), if_pos rfl, show (1 : Int32) = nI 1 from rfl, hasRoom_t w C (by omega), Option.bind_some]
          by_cases c3 : roomS S 1
          · rw [decide_eq_true (show nv S < 30 ∧ nb S + 1 ≤ 200 from c3), if_neg (show ¬ bI true = 0 by decide), if_pos rfl, if_pos (show roomS S (kPut (lnP S a b)) ∧ ¬ (lnP S a b = 24 ∧ rl S a = 8) from ⟨by rw [ek]; exact c3, fun q => z q.1⟩)]
            exact fin ⟨by rw [ek]; exact c3, fun q => z q.1⟩
          · rw [decide_eq_false (show ¬ (nv S < 30 ∧ nb S + 1 ≤ 200) from c3), if_pos (show bI false = 0 from rfl), if_neg (show ¬ (roomS S (kPut (lnP S a b)) ∧ ¬ (lnP S a b = 24 ∧ rl S a = 8)) from fun q => c3 (by rw [← ek]; exact q.1))]
            exact XG.no w C _
      · rw [if_neg c2, if_neg c2, if_pos rfl]
        exact XG.no w C _
    · rw [if_neg (show ¬ (vd (nv S) (nI a) ∧ vd (plc S a + 1) p) from fun z => c1 z.2)]
      by_cases c2 : p.toInt < 0
      · rw [if_pos (a0.mpr c2)]; exact XG.no w C _
      · rw [if_neg (fun q => c2 (a0.mp q)), if_neg (fun q => c1 ⟨by omega, by have := a1.mp q; omega⟩)]; exact XG.no w C _
  · rw [versionOf_f w C c0, Option.bind_some, if_pos rfl, if_neg (fun z => c0 z.1)]
    exact XG.no w C _
end EX3
