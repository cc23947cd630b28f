/-! change, put, strike: the class -/
abbrev roomS (S : sS) (k : Nat) : Prop := nv S < 30 ∧ nb S + k ≤ 200
def edR (S : sS) (v i m : Nat) (g : Nat → Nat) : Int32 × sS := (nI (nv S), edE S v i (plS (ed0 S v i) m g))
def sp_change (S : sS) (v p x : Int32) : Int32 × sS := if vd (nv S) v ∧ vd (plc S v.toNatClampNeg) p then (if 0 ≤ x.toInt ∧ x.toInt ≤ 15 then (if roomS S 1 then (if trn S v.toNatClampNeg = 0 then edR S v.toNatClampNeg (loc S v.toNatClampNeg p.toNatClampNeg).1 (ln S (rw_ S v.toNatClampNeg (loc S v.toNatClampNeg p.toNatClampNeg).1)) (gS (sg S (rw_ S v.toNatClampNeg (loc S v.toNatClampNeg p.toNatClampNeg).1)) (loc S v.toNatClampNeg p.toNatClampNeg).2 x.toNatClampNeg 1) else (-100005, S)) else (-100004, S)) else (-100002, S)) else (-100001, S)
def kLen (n : Nat) : Nat := if n = 1 then 0 else 1
def sp_strike (S : sS) (v p : Int32) : Int32 × sS := if vd (nv S) v ∧ vd (plc S v.toNatClampNeg) p then (if roomS S (kLen (ln S (rw_ S v.toNatClampNeg (loc S v.toNatClampNeg p.toNatClampNeg).1))) then (if trn S v.toNatClampNeg = 0 then edR S v.toNatClampNeg (loc S v.toNatClampNeg p.toNatClampNeg).1 (ln S (rw_ S v.toNatClampNeg (loc S v.toNatClampNeg p.toNatClampNeg).1) - 1) (gK (sg S (rw_ S v.toNatClampNeg (loc S v.toNatClampNeg p.toNatClampNeg).1)) (loc S v.toNatClampNeg p.toNatClampNeg).2) else (-100005, S)) else (-100004, S)) else (-100001, S)
def ixP (S : sS) (v p : Nat) : Nat := if p = plc S v then rl S v - 1 else (loc S v p).1
def lnP (S : sS) (v p : Nat) : Nat := if rl S v = 0 then 0 else ln S (rw_ S v (ixP S v p))
def ofP (S : sS) (v p : Nat) : Nat := if p = plc S v then lnP S v p else (loc S v p).2
def kPut (n : Nat) : Nat := if n = 24 then 2 else 1
def sp_put (S : sS) (v p x : Int32) : Int32 × sS := if vd (nv S) v ∧ vd (plc S v.toNatClampNeg + 1) p then (if 0 ≤ x.toInt ∧ x.toInt ≤ 15 then (if roomS S (kPut (lnP S v.toNatClampNeg p.toNatClampNeg)) ∧ ¬ (lnP S v.toNatClampNeg p.toNatClampNeg = 24 ∧ rl S v.toNatClampNeg = 8) then (if trn S v.toNatClampNeg = 0 then edR S v.toNatClampNeg (ixP S v.toNatClampNeg p.toNatClampNeg) (lnP S v.toNatClampNeg p.toNatClampNeg + 1) (gS (sg S (rw_ S v.toNatClampNeg (ixP S v.toNatClampNeg p.toNatClampNeg))) (ofP S v.toNatClampNeg p.toNatClampNeg) x.toNatClampNeg 0) else (-100005, S)) else (-100004, S)) else (-100002, S)) else (-100001, S)
/-- where a sign is put -/
theorem putP {S : sS} (w : WF S) {v p : Nat} (hv : v < nv S) (hp : p ≤ plc S v) : ixP S v p ≤ rl S v ∧ (rl S v ≠ 0 → ixP S v p < rl S v) ∧ ofP S v p ≤ lnP S v p ∧ lnP S v p ≤ 24 ∧ (rl S v = 0 → ixP S v p = 0 ∧ ofP S v p = 0 ∧ lnP S v p = 0) ∧ sumN (fun i => ln S (rw_ S v i)) (ixP S v p) + ofP S v p = p ∧ (rl S v ≠ 0 → lnP S v p = ln S (rw_ S v (ixP S v p))) := by
  by_cases c0 : rl S v = 0
  · have e0 : plc S v = 0 := by unfold plc; rw [c0]; rfl
    have ep : p = plc S v := by omega
    have e1 : ixP S v p = 0 := by unfold ixP; rw [if_pos ep, c0]
    have e2 : lnP S v p = 0 := by unfold lnP; rw [if_pos c0]
    have e3 : ofP S v p = 0 := by unfold ofP; rw [if_pos ep, e2]
    rw [e1, e2, e3]
    refine ⟨by omega, fun z => absurd c0 z, by omega, by omega, fun _ => ⟨rfl, rfl, rfl⟩, ?_, fun z => absurd c0 z⟩
    show 0 + 0 = p
    omega
  · have e2 : lnP S v p = ln S (rw_ S v (ixP S v p)) := by unfold lnP; rw [if_neg c0]
    by_cases c1 : p = plc S v
    · have e1 : ixP S v p = rl S v - 1 := by unfold ixP; rw [if_pos c1]
      have e3 : ofP S v p = lnP S v p := by unfold ofP; rw [if_pos c1]
      have hb := (w.2.2.2.2 v hv).1.2 (rl S v - 1) (by omega)
      have hl := (w.2.2.1.2 _ hb).1
      rw [e3, e2, e1]
      refine ⟨by omega, fun _ => by omega, Nat.le_refl _, hl.2, fun z => absurd z c0, ?_, fun _ => rfl⟩
      rw [c1]
      unfold plc
      rw [show sumN (fun i => ln S (rw_ S v i)) (rl S v) = sumN (fun i => ln S (rw_ S v i)) (rl S v - 1 + 1) by rw [show rl S v - 1 + 1 = rl S v by omega]]
      rfl
    · have e1 : ixP S v p = (loc S v p).1 := by unfold ixP; rw [if_neg c1]
      have e3 : ofP S v p = (loc S v p).2 := by unfold ofP; rw [if_neg c1]
      obtain ⟨l1, l2, l3⟩ := loc_spec (S := S) (v := v) (p := p) (by omega)
      have hb := (w.2.2.2.2 v hv).1.2 _ l1
      have hl := (w.2.2.1.2 _ hb).1
      rw [e3, e2, e1]
      exact ⟨by omega, fun _ => l1, by omega, hl.2, fun z => absurd z c0, l3, fun _ => rfl⟩
section EX2
variable {Z : sZ} {S : sS} {pb pv : Nat → Nat} {h : am_H}
theorem index_end (w : WF S) (C : RX Z S pb pv h) {v : Nat} (hv : v < nv S) : ∀ (q k i : Nat), i + k = rl S v → k < q → F_X8_indexAt_5 q 1 (rD (pv v)) (nI (plc S v)) (nI (sumN (fun i => ln S (rw_ S v i)) i)) (nI i) h = some (nI (rl S v - 1))
  | 0, k, i, h1, h2 => by omega
  | q + 1, 0, i, h1, h2 => by
    have hw := (w.2.2.2.2 v hv).1
    have V := C.2.2.2.2.2.2.1 v hv
    obtain ⟨f, rr, -⟩ := V.2.1
    rw [F_X8_indexAt_5, V.f.1, Option.bind_some, row_length rr, Option.bind_some, if_pos (nI_le (by omega) (by omega)), Option.bind_some, row_length rr, Option.bind_some]
    by_cases c : rl S v = 0
    · rw [c]; rfl
    · rw [show nI (rl S v) - 1 = nI (rl S v - 1) by rw [show (1 : Int32) = nI 1 from rfl, nI_subN (by omega)], show (0 : Int32) = nI 0 from rfl, jmax (by omega) (by omega), Option.bind_some, show (if 0 < rl S v - 1 then rl S v - 1 else 0) = rl S v - 1 by split <;> omega]
  | q + 1, k + 1, i, h1, h2 => by
    have hw := (w.2.2.2.2 v hv).1
    have V := C.2.2.2.2.2.2.1 v hv
    obtain ⟨f, rr, -⟩ := V.2.1
    have hp := plc_le w hv
    have hs : sumN (fun i => ln S (rw_ S v i)) (i + 1) ≤ plc S v := sumN_mono (by omega)
    have ih := index_end w C hv q k (i + 1) (by omega) (by omega)
    have es : sumN (fun i => ln S (rw_ S v i)) (i + 1) = sumN (fun i => ln S (rw_ S v i)) i + ln S (rw_ S v i) := rfl
    rw [F_X8_indexAt_5, V.f.1, Option.bind_some, row_length rr, Option.bind_some, if_neg (nI_ge (by omega) (by omega)), lengthIn_t w C hv (by omega), Option.bind_some, nI_add, ← es, if_pos (nI_le hs (by omega)), nI_1]
    exact ih
theorem indexP (w : WF S) (C : RX Z S pb pv h) {v p : Nat} (hv : v < nv S) (hp : p ≤ plc S v) : F_X8_indexAt 1 (rD (pv v)) (nI p) h = some (nI (ixP S v p)) := by
  unfold ixP
  by_cases c : p = plc S v
  · rw [if_pos c, c]
    have hw := (w.2.2.2.2 v hv).1
    unfold F_X8_indexAt F_X8_indexAt_b
    rw [C.ob]
    exact index_end w C hv am_F (rl S v) 0 (by omega) (by show _ < 100000; omega)
  · rw [if_neg c]; exact indexAt_t w C hv (by omega)
theorem edited_t (w : WF S) (C : RX Z S pb pv h) {v i st p m : Nat} {g : Nat → Nat} {P x k' : Int32} (hv : v < nv S) (h0 : trn S v = 0) (h30 : nv S < 30) (hi : i ≤ rl S v) (e1 : F_X8_indexAt 1 (rD (pv v)) P h = some (nI i)) (e2 : F_X8_startOf 1 (rD (pv v)) (nI i) h = some (nI st)) (e3 : P - nI st = nI p) (e4 : ∃ h1 f, F_X8_spell 1 (rD (pv v)) (nI i) (nI p) x k' h = some h1 ∧ RX Z S pb pv h1 ∧ Fr (fun q => q = 10 ∨ q = 11) h h1 ∧ RowAt h1 10 25 m f ∧ ∀ k, k < m → f k = nI (g k)) (hg : ∀ k, k < m → g k < 16) (hb : nb S + lys m ≤ 200) (hn : i + lys m + (rl S v - (i + 1)) ≤ 8) : ∃ h' pb' pv', F_X8_edited 1 (nI v) P x k' h = some (nI (nv S), h') ∧ RX Z (edE S v i (plS (ed0 S v i) m g)) pb' pv' h' ∧ Kp h h' ((plS (ed0 S v i) m g).2.2.2 + 1) := by
  have hw := (w.2.2.2.2 v hv).1
  obtain ⟨h1, f1, e4, C1, F1, r1, d1⟩ := e4
  have hm := r1.2.1
  obtain ⟨h2, e5, P2, F2⟩ := startPlan_t C1
  obtain ⟨C2, o2, fp2, rp2, -⟩ := P2 (fun _ => 0)
  have V2 := C2.2.2.2.2.2.2.1 v hv
  obtain ⟨fv2, rv2, dv2⟩ := V2.2.1
  have h116 : 116 ≤ rD (pv v) := by unfold rD; omega
  obtain ⟨h3, fp3, e6, rp3, -, d3, F3⟩ := row_addPart (a := 8) (b := rD (pv v) + 5) (i := 0) (e := i) (k := i) (by omega) rp2 rv2 (by omega) (by omega) (by omega) (by omega) (by omega)
  rw [Nat.zero_add] at rp3
  have C3 : RX Z S pb pv h3 := C2.scr F3 (fun q z => by omega) (C2.2.2.2.2.2.2.2.1.p (F3.mono (fun q z => by omega)) ⟨_, _, rp3⟩)
  have P3 : XP Z (ed0 S v i).1 pb pv h3 (ed0 S v i).2.1 (ed0 S v i).2.2.1 (ed0 S v i).2.2.2 := ⟨C3, (obj_at (F3.2.2 _ (by omega))).trans o2, fp3, rp3, fun j hj => by
    have hj : j < i := hj
    have := d3 j hj
    rw [Nat.zero_add] at this
    rw [this, dv2 j (by omega)]
    show _ = nI (apP (fun _ => 0) 0 (rw_ S v) 0 j)
    unfold apP
    rw [if_neg (by omega), show 0 + (j - 0) = j by omega]⟩
  have M0 := edI_0 w hv h0 hi
  obtain ⟨Mp, en⟩ := edI_pl (g := g) M0 (by omega) hg hb
  have en : (plS (ed0 S v i) m g).2.1 = i + lys m := en
  obtain ⟨h4, pb4, e7, P4, K4⟩ := planSpelled_t M0 P3 ((r1.fr F2 (by omega) (by omega)).fr F3 (by omega) (by omega)) d1 hg hb (by show i + lys m ≤ 8; omega)
  obtain ⟨v1, v2, v3⟩ := edI_v Mp
  obtain ⟨C4, o4, fp4, rp4, d4⟩ := P4
  have V4 := C4.2.2.2.2.2.2.1 v (by rw [v1]; exact hv)
  rw [v2, v3] at V4
  obtain ⟨fv4, rv4, dv4⟩ := V4.2.1
  obtain ⟨h5, fp5, e8, rp5, d5, d5', F5⟩ := row_addPart (a := 8) (b := rD (pv v) + 5) (i := i + 1) (e := rl S v) (k := rl S v - (i + 1)) (by omega) rp4 rv4 (by omega) (by omega) (by omega) (by omega) (by rw [en]; omega)
  have C5 : RX Z (plS (ed0 S v i) m g).1 pb4 pv h5 := C4.scr F5 (fun q z => by omega) (C4.2.2.2.2.2.2.2.1.p (F5.mono (fun q z => by omega)) ⟨_, _, rp5⟩)
  have P5 : XP Z (plS (ed0 S v i) m g).1 pb4 pv h5 ((plS (ed0 S v i) m g).2.1 + (rl S v - (i + 1))) (apP (plS (ed0 S v i) m g).2.2.1 (plS (ed0 S v i) m g).2.1 (rw_ S v) (i + 1)) (plS (ed0 S v i) m g).2.2.2 := ⟨C5, (obj_at (F5.2.2 _ (by omega))).trans o4, fp5, rp5, fun j hj => by
    unfold apP
    by_cases c : j < (plS (ed0 S v i) m g).2.1
    · rw [if_pos c, d5 j c, d4 j c]
    · rw [if_neg c]
      obtain ⟨u, rfl⟩ : ∃ u, j = (plS (ed0 S v i) m g).2.1 + u := ⟨j - (plS (ed0 S v i) m g).2.1, by omega⟩
      rw [d5' u (by omega), dv4 _ (by omega), Nat.add_sub_cancel_left]⟩
  obtain ⟨h6, pv6, e9, C6, K6⟩ := keepPlan_t Mp.1.1 P5 (by rw [en]; omega) (edE_ok w hv h0 Mp) (by omega) (nI v)
  refine ⟨h6, pb4, pv6, ?_, C6, ?_⟩
  · unfold F_X8_edited F_X8_edited_b
    rw [C.ob, versionOf_t w C hv, Option.bind_some, if_neg (rD_ne _), tornBlocks_t w C hv, Option.bind_some, if_pos (show nI (trn S v) ≤ 0 by rw [h0]; decide), e1, Option.bind_some, e2, Option.bind_some, e3, e4, Option.bind_some, e5, Option.bind_some, C2.gr (k := 6) (x := 8) (fun _ => rfl), Option.bind_some, V2.f.1, Option.bind_some, show (0 : Int32) = nI 0 from rfl, e6, Option.bind_some, e7, Option.bind_some, C4.gr (k := 6) (x := 8) (fun _ => rfl), Option.bind_some, V4.f.1, Option.bind_some, Option.bind_some, row_length rv4, Option.bind_some, nI_1, e8, Option.bind_some, e9, Option.bind_some, v1]
  · have K1 := Kp.fr F1 (fun q h1 h2 => by omega)
    have K2 := Kp.fr F2 (fun q h1 h2 => by omega)
    have K3 := Kp.fr F3 (fun q h1 h2 => by omega)
    have K5 := Kp.fr F5 (fun q h1 h2 => by omega)
    have := ((((K1.tr K2).tr K3).tr K4).tr K5).tr K6
    have e0 : (ed0 S v i).2.2.2 = 0 := rfl
    rw [e0, Nat.sub_zero] at this
    rw [show (plS (ed0 S v i) m g).2.2.2 + 1 = 0 + 0 + 0 + (plS (ed0 S v i) m g).2.2.2 + 0 + 1 by omega]
    exact this
end EX2
