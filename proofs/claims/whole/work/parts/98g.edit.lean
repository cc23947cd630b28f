/-! versions edited: what both come to -/
def edL (s : sM) (m : Nat) (g : Nat → Nat) : sM := (layS s.1 m g, s.2.1 + 1, updN s.2.2.1 s.2.1 (lkB s.1 m g), s.2.2.2 + layN s.1 m g)
def ed0 (S : sS) (v i : Nat) : sM := (S, i, apP (fun _ => 0) 0 (rw_ S v) 0, 0)
def plS (s : sM) (m : Nat) (g : Nat → Nat) : sM := if m = 0 then s else if m ≤ 24 then edL s m g else edL (edL s 12 g) 13 (fun k => g (12 + k))
def edE (S : sS) (v i : Nat) (s : sM) : sS := S_v s.1 (s.2.1 + (rl S v - (i + 1))) (apP s.2.2.1 s.2.1 (rw_ S v) (i + 1)) (nI v) s.2.2.2
def gS (s : Nat → Nat) (p x k' : Nat) : Nat → Nat := fun k => if k < p then s k else if k = p then x else s (k - 1 + k')
def gK (s : Nat → Nat) (p : Nat) : Nat → Nat := fun k => if k < p then s k else s (k + 1)
def edI (S : sS) (k : Nat) (s : sM) : Prop := (WF s.1 ∧ s.1.1 = S.1 ∧ s.1.2.1 = S.2.1 ∧ s.1.2.2.2 = S.2.2.2) ∧ (nb s.1 = nb S + s.2.2.2 ∧ s.2.2.2 ≤ k ∧ ∀ b, b < nb S → tn s.1 b = tn S b) ∧ ∀ j, j < s.2.1 → s.2.2.1 j < nb s.1 ∧ tn s.1 (s.2.2.1 j) = false
theorem edI_step {S : sS} {k m : Nat} {s : sM} {g : Nat → Nat} (M : edI S k s) (hm : 1 ≤ m ∧ m ≤ 24) (hg : ∀ k, k < m → g k < 16) (hb : nb S + k < 200) : edI S (k + 1) (edL s m g) := by
  obtain ⟨⟨m1, m2, m3, m4⟩, ⟨m5, m6, m7⟩, m8⟩ := M
  have hb : nb s.1 < 200 := by omega
  obtain ⟨l1, l2, l3, l4, l5⟩ := lay_ok (S := s.1) (n := m) (g := g)
  obtain ⟨v1, v2, v3⟩ := lay_vs s.1 m g
  refine ⟨⟨WF_lay m1 hm hg hb, v1.trans m2, v2.trans m3, v3.trans m4⟩, ⟨by show nb (layS s.1 m g) = nb S + (s.2.2.2 + layN s.1 m g); rw [l1, m5]; omega, by show s.2.2.2 + layN s.1 m g ≤ k + 1; omega, fun b hb' => (l4 b (by omega)).trans (m7 b hb')⟩, fun j hj => ?_⟩
  have hj : j < s.2.1 + 1 := hj
  show updN s.2.2.1 s.2.1 (lkB s.1 m g) j < nb (layS s.1 m g) ∧ tn (layS s.1 m g) (updN s.2.2.1 s.2.1 (lkB s.1 m g) j) = false
  by_cases z : j = s.2.1
  · rw [z, updN_self]; exact ⟨l2, l3⟩
  · obtain ⟨a1, a2⟩ := m8 j (by omega)
    rw [updN_ne z, l4 _ a1]
    exact ⟨by omega, a2⟩
theorem edI_v {S : sS} {k : Nat} {s : sM} (M : edI S k s) : nv s.1 = nv S ∧ rl s.1 = rl S ∧ rw_ s.1 = rw_ S := ⟨congrArg (fun q : Nat × (Nat → Nat) × (Nat → Nat → Nat) × (Nat → Int32) × (Nat → Nat) × (Nat → Nat → Nat) × (Nat → Nat → Nat) => q.1) M.1.2.2.2, congrArg (fun q : Nat × (Nat → Nat) × (Nat → Nat → Nat) × (Nat → Int32) × (Nat → Nat) × (Nat → Nat → Nat) × (Nat → Nat → Nat) => q.2.1) M.1.2.2.2, congrArg (fun q : Nat × (Nat → Nat) × (Nat → Nat → Nat) × (Nat → Int32) × (Nat → Nat) × (Nat → Nat → Nat) × (Nat → Nat → Nat) => q.2.2.1) M.1.2.2.2⟩
/-- how many blocks are laid -/
def lys (m : Nat) : Nat := if m = 0 then 0 else if m ≤ 24 then 1 else 2
theorem edI_pl {S : sS} {m : Nat} {s : sM} {g : Nat → Nat} (M : edI S 0 s) (hm : m ≤ 25) (hg : ∀ k, k < m → g k < 16) (hb : nb S + lys m ≤ 200) : edI S (lys m) (plS s m g) ∧ (plS s m g).2.1 = s.2.1 + lys m := by
  unfold plS lys at *
  by_cases c0 : m = 0
  · rw [if_pos c0, if_pos c0]; exact ⟨M, rfl⟩
  · rw [if_neg c0, if_neg c0]
    by_cases c1 : m ≤ 24
    · rw [if_pos c1, if_pos c1]
      rw [if_neg c0, if_pos c1] at hb
      exact ⟨edI_step M ⟨by omega, c1⟩ hg (by omega), rfl⟩
    · rw [if_neg c1, if_neg c1]
      rw [if_neg c0, if_neg c1] at hb
      exact ⟨edI_step (edI_step M ⟨by omega, by omega⟩ (fun k hk => hg k (by omega)) (by omega)) ⟨by omega, by omega⟩ (fun k hk => hg _ (by omega)) (by omega), rfl⟩
theorem edI_0 {S : sS} (w : WF S) {v i : Nat} (hv : v < nv S) (h0 : trn S v = 0) (hi : i ≤ rl S v) : edI S 0 (ed0 S v i) := by
  refine ⟨⟨w, rfl, rfl, rfl⟩, ⟨rfl, Nat.le_refl _, fun _ _ => rfl⟩, fun j hj => ?_⟩
  have hj : j < i := hj
  show apP (fun _ => 0) 0 (rw_ S v) 0 j < nb S ∧ tn S (apP (fun _ => 0) 0 (rw_ S v) 0 j) = false
  unfold apP
  rw [if_neg (by omega), show 0 + (j - 0) = j by omega]
  exact ⟨(w.2.2.2.2 v hv).1.2 j (by omega), trn_0 h0 j (by omega)⟩
/-- the end of the edit -/
theorem edE_ok {S : sS} (w : WF S) {v i k : Nat} {s : sM} (hv : v < nv S) (h0 : trn S v = 0) (M : edI S k s) : ∀ j, j < s.2.1 + (rl S v - (i + 1)) → apP s.2.2.1 s.2.1 (rw_ S v) (i + 1) j < nb s.1 ∧ tn s.1 (apP s.2.2.1 s.2.1 (rw_ S v) (i + 1) j) = false := fun j hj => by
  unfold apP
  by_cases c : j < s.2.1
  · rw [if_pos c]; exact M.2.2 j c
  · rw [if_neg c]
    have hb := (w.2.2.2.2 v hv).1.2 (i + 1 + (j - s.2.1)) (by omega)
    have ht := trn_0 h0 (i + 1 + (j - s.2.1)) (by omega)
    have h1 := M.2.1.1
    exact ⟨by omega, (M.2.1.2.2 _ hb).trans ht⟩
theorem WF_ed {S : sS} (w : WF S) {v i k : Nat} {s : sM} (hv : v < nv S) (h0 : trn S v = 0) (M : edI S k s) (hn : s.2.1 + (rl S v - (i + 1)) ≤ 8) (h30 : nv S < 30) : WF (edE S v i s) ∧ nb (edE S v i s) + nv (edE S v i s) = nb S + nv S + (s.2.2.2 + 1) := by
  have e := (edI_v M).1
  refine ⟨WF_v M.1.1 hn (fun j hj => (edE_ok w hv h0 M j hj).1) (by omega), ?_⟩
  have h1 := M.2.1.1
  show nb s.1 + (nv s.1 + 1) = _
  omega
theorem gS_lt {s : Nat → Nat} {n p x k' : Nat} (hs : ∀ k, k < n → s k < 16) (hp : p ≤ n) (hx : x < 16) (hk : k' ≤ 1) (hpk : p + k' ≤ n) : ∀ k, k < n + 1 - k' → gS s p x k' k < 16 := fun k hk' => by
  unfold gS
  split
  · exact hs _ (by omega)
  · split
    · exact hx
    · exact hs _ (by omega)
theorem gK_lt {s : Nat → Nat} {n p : Nat} (hs : ∀ k, k < n → s k < 16) (hp : p < n) : ∀ k, k < n - 1 → gK s p k < 16 := fun k hk => by
  unfold gK
  split <;> exact hs _ (by omega)
/-! the class edits -/
section EX
variable {Z : sZ} {S : sS} {pb pv : Nat → Nat} {h : am_H}
theorem RX.sp (C : RX Z S pb pv h) {h' : am_H} {m : Nat} {f : Nat → Int32} (F : Fr (fun q => q = 10 ∨ q = 11) h h') (r : RowAt h' 10 25 m f) : RX Z S pb pv h' := C.scr F (fun q z => by omega) (C.2.2.2.2.2.2.2.1.s (F.mono (fun q z => by omega)) ⟨_, _, r⟩)
theorem spell_some (w : WF S) (C : RX Z S pb pv h) {v i p k' : Nat} (hv : v < nv S) (hi : i < rl S v) (ht : tn S (rw_ S v i) = false) (hk : k' ≤ 1) (hp : p + k' ≤ ln S (rw_ S v i)) (x : Int32) (hx : x = -1 ∨ ∃ y, y < 16 ∧ x = nI y) : ∃ h' m f, F_X8_spell 1 (rD (pv v)) (nI i) (nI p) x (nI k') h = some h' ∧ RX Z S pb pv h' ∧ Fr (fun q => q = 10 ∨ q = 11) h h' ∧ RowAt h' 10 25 m f ∧ (x = -1 → m = ln S (rw_ S v i) - k' ∧ ∀ k, k < m → f k = nI (if k < p then sg S (rw_ S v i) k else sg S (rw_ S v i) (k + k'))) ∧ (∀ y, y < 16 → x = nI y → m = ln S (rw_ S v i) + 1 - k' ∧ ∀ k, k < m → f k = nI (gS (sg S (rw_ S v i)) p y k' k)) := by
  have V := C.2.2.2.2.2.2.1 v hv
  obtain ⟨fr, rr, hrr⟩ := V.2.1
  have hb := (w.2.2.2.2 v hv).1.2 i hi
  have hl := w.2.2.1.2 _ hb
  obtain ⟨n0, f0, r0⟩ := C.2.2.2.2.2.2.2.1.2.1
  obtain ⟨h1, e1, r1, F1⟩ := row_empty r0
  have C1 := C.sp (F1.mono (fun q z => Or.inl z)) r1
  have B1 := C1.2.2.2.2.2.1 _ hb
  obtain ⟨fb1, rb1, hfb1⟩ := BlkAt.sg w C1 hb ht
  have h116 : 116 ≤ rD (pb (rw_ S v i)) := by unfold rD; omega
  obtain ⟨h2, f2, e2, r2, -, g2, F2⟩ := row_addPart (a := 10) (b := rD (pb (rw_ S v i)) + 5) (i := 0) (e := p) (k := p) (by omega) r1 rb1 (by omega) (by omega) (by omega) (by omega) (by omega)
  rw [Nat.zero_add] at r2
  have F12 : Fr (fun q => q = 10 ∨ q = 11) h h2 := F1.tr F2 (fun q z => Or.inl z) (fun q z => z)
  have C2 := C.sp F12 r2
  have g2' : ∀ k, k < p → f2 k = nI (sg S (rw_ S v i) k) := fun k hk => by
    have := g2 k hk
    rw [Nat.zero_add] at this
    rw [this, hfb1 k (by omega)]
  have pre : F_X8_spell 1 (rD (pv v)) (nI i) (nI p) x (nI k') h = F_X8_spell_40 1 (nI p) x (nI k') (rD (pb (rw_ S v i))) h2 := by
    unfold F_X8_spell F_X8_spell_b
    rw [C.ob, V.f.1, Option.bind_some, row_at rr hi, Option.bind_some, hrr i hi, blockOf_t w C hb, Option.bind_some, C.gr (k := 8) (x := 10) (fun _ => rfl), Option.bind_some, e1, Option.bind_some, if_neg (rD_ne _), C1.gr (k := 8) (x := 10) (fun _ => rfl), Option.bind_some, B1.f.1, Option.bind_some, show (0 : Int32) = nI 0 from rfl, e2, Option.bind_some]
  have post : ∀ {h3 : am_H} {m : Nat} {f3 : Nat → Int32}, RX Z S pb pv h3 → RowAt h3 10 25 m f3 → m + (ln S (rw_ S v i) - (p + k')) ≤ 25 → ∃ h' f', F_X8_spell_55 1 (nI p) (nI k') (rD (pb (rw_ S v i))) h3 = some h' ∧ RX Z S pb pv h' ∧ Fr (fun q => q = 10 ∨ q = 11) h3 h' ∧ RowAt h' 10 25 (m + (ln S (rw_ S v i) - (p + k'))) f' ∧ (∀ k, k < m → f' k = f3 k) ∧ ∀ k, k < ln S (rw_ S v i) - (p + k') → f' (m + k) = nI (sg S (rw_ S v i) (p + k' + k)) := fun {h3 m f3} C3 r3 hm => by
    have B3 := C3.2.2.2.2.2.1 _ hb
    obtain ⟨fb3, rb3, hfb3⟩ := BlkAt.sg w C3 hb ht
    obtain ⟨h4, f4, e4, r4, g4, k4, F4⟩ := row_addPart (a := 10) (b := rD (pb (rw_ S v i)) + 5) (i := p + k') (e := ln S (rw_ S v i)) (k := ln S (rw_ S v i) - (p + k')) (by omega) r3 rb3 (by omega) (by omega) (by omega) (by omega) hm
    refine ⟨h4, f4, ?_, C3.sp F4 r4, F4, r4, g4, fun k hk => by rw [k4 k hk, hfb3 _ (by omega)]⟩
    unfold F_X8_spell_55 F_X8_spell_84
    rw [if_neg (rD_ne _), C3.gr (k := 8) (x := 10) (fun _ => rfl), Option.bind_some, B3.f.1, Option.bind_some, Option.bind_some, row_length rb3, Option.bind_some, nI_add, e4, Option.bind_some]
  rw [pre]
  unfold F_X8_spell_40
  rcases hx with hx | ⟨y, hy, hx⟩
  · rw [if_pos hx]
    obtain ⟨h4, f4, e4, C4, F4, r4, g4, k4⟩ := post C2 r2 (by omega)
    refine ⟨h4, _, f4, e4, C4, F12.tr F4 (fun _ z => z) (fun _ z => z), r4, fun _ => ⟨by omega, fun k hk' => ?_⟩, fun y hy hxy => absurd (hxy.symm.trans hx) (nI_nm1 (by omega))⟩
    by_cases c : k < p
    · rw [if_pos c, g4 k c, g2' k c]
    · rw [if_neg c]
      obtain ⟨u, rfl⟩ : ∃ u, k = p + u := ⟨k - p, by omega⟩
      rw [k4 u (by omega), show p + k' + u = p + u + k' by omega]
  · have hne : ¬ x = -1 := fun z => nI_nm1 (k := y) (by omega) (hx.symm.trans z)
    obtain ⟨h3, e3, r3, F3⟩ := row_add r2 (show p < 25 by omega) x
    have C3 := C2.sp F3 r3
    obtain ⟨h4, f4, e4, C4, F4, r4, g4, k4⟩ := post C3 r3 (by omega)
    rw [if_neg hne, C2.gr (k := 8) (x := 10) (fun _ => rfl), Option.bind_some, e3, Option.bind_some]
    refine ⟨h4, _, f4, e4, C4, (F12.tr F3 (T := fun q => q = 10 ∨ q = 11) (fun _ z => z) (fun _ z => z)).tr F4 (fun _ z => z) (fun _ z => z), r4, fun z => absurd z hne, fun y' hy' hxy => ⟨by omega, fun k hk' => ?_⟩⟩
    have eyy : y' = y := (nI_eq (by omega) (by omega)).mp (hxy.symm.trans hx)
    subst eyy
    unfold gS
    by_cases c : k < p
    · rw [if_pos c, g4 k (by omega), upd_ne (by omega), g2' k c]
    · rw [if_neg c]
      by_cases c2 : k = p
      · rw [if_pos c2, c2, g4 p (by omega), upd_self, hx]
      · rw [if_neg c2]
        obtain ⟨u, rfl⟩ : ∃ u, k = p + 1 + u := ⟨k - (p + 1), by omega⟩
        rw [k4 u (by omega), show p + 1 + u - 1 + k' = p + k' + u by omega]
theorem spell_none (w : WF S) (C : RX Z S pb pv h) {v x : Nat} (hv : v < nv S) (h0 : rl S v = 0) (hx : x < 16) : ∃ h' f, F_X8_spell 1 (rD (pv v)) (nI 0) (nI 0) (nI x) (nI 0) h = some h' ∧ RX Z S pb pv h' ∧ Fr (fun q => q = 10 ∨ q = 11) h h' ∧ RowAt h' 10 25 1 f ∧ ∀ k, k < 1 → f k = nI x := by
  have V := C.2.2.2.2.2.2.1 v hv
  obtain ⟨fr, rr, hrr⟩ := V.2.1
  obtain ⟨n0, f0, r0⟩ := C.2.2.2.2.2.2.2.1.2.1
  obtain ⟨h1, e1, r1, F1⟩ := row_empty r0
  have C1 := C.sp (F1.mono (fun q z => Or.inl z)) r1
  obtain ⟨h2, e2, r2, F2⟩ := row_add r1 (show 0 < 25 by omega) (nI x)
  refine ⟨h2, _, ?_, C1.sp F2 r2, F1.tr F2 (fun q z => Or.inl z) (fun q z => z), r2, fun k hk => by rw [show k = 0 by omega, upd_self]⟩
  unfold F_X8_spell F_X8_spell_b F_X8_spell_40 F_X8_spell_55 F_X8_spell_84
  rw [C.ob, V.f.1, Option.bind_some, row_at_out rr (fun z => by unfold vd at z; rw [nI_toInt (by omega)] at z; omega), Option.bind_some, blockOf_f w C (fun z => by have := z.1; rw [show (-1 : Int32).toInt = -1 by decide] at this; omega), Option.bind_some, C.gr (k := 8) (x := 10) (fun _ => rfl), Option.bind_some, e1, Option.bind_some, if_pos rfl, if_neg (nI_nm1 (by omega)), C1.gr (k := 8) (x := 10) (fun _ => rfl), Option.bind_some, e2, Option.bind_some, if_pos rfl]
theorem planNone (C : RX Z S pb pv h) {src a : Nat} (ha : a < 2 ^ 31) : F_X8_planBlock 1 src (nI a) (nI a) h = some h := by
  unfold F_X8_planBlock F_X8_planBlock_b
  rw [C.ob, if_neg (nI_nlt (Nat.le_refl _) ha)]
theorem planSpelled_t {S0 : sS} {s : sM} {m : Nat} {f : Nat → Int32} {g : Nat → Nat} (M : edI S0 0 s) (P : XP Z s.1 pb pv h s.2.1 s.2.2.1 s.2.2.2) (r : RowAt h 10 25 m f) (hf : ∀ k, k < m → f k = nI (g k)) (hg : ∀ k, k < m → g k < 16) (hb : nb S0 + lys m ≤ 200) (hn : s.2.1 + lys m ≤ 8) : ∃ h' pb', F_X8_planSpelled 1 h = some h' ∧ XP Z (plS s m g).1 pb' pv h' (plS s m g).2.1 (plS s m g).2.2.1 (plS s m g).2.2.2 ∧ Kp h h' ((plS s m g).2.2.2 - s.2.2.2) := by
  have hm := r.2.1
  have hc0 : s.2.2.2 = 0 := by have := M.2.1.2.1; omega
  have C := P.1
  unfold F_X8_planSpelled F_X8_planSpelled_b
  rw [C.ob, C.gr (k := 8) (x := 10) (fun _ => rfl), Option.bind_some, row_length r, Option.bind_some]
  unfold F_X8_planSpelled_20 plS
  unfold lys at hb hn
  rw [C.gr (k := 8) (x := 10) (fun _ => rfl), Option.bind_some]
  by_cases c0 : m = 0
  · rw [if_pos c0, if_pos (show nI m ≤ (24 : Int32) from nI_le (b := 24) (by omega) (by decide)), c0, show (0 : Int32) = nI 0 from rfl, planNone C (by omega), Option.bind_some, C.gr (k := 8) (x := 10) (fun _ => rfl), Option.bind_some, planNone C (by omega), Option.bind_some]
    exact ⟨h, pb, rfl, P, by rw [Nat.sub_self]; exact Kp.fr Fr.rf (fun _ _ _ => fun z => z)⟩
  · rw [if_neg c0]
    rw [if_neg c0] at hb hn
    by_cases c1 : m ≤ 24
    · rw [if_pos c1] at hb hn ⊢
      rw [if_pos (show nI m ≤ (24 : Int32) from nI_le (b := 24) c1 (by decide))]
      obtain ⟨h1, pb1, e1, P1, r1, K1⟩ := planBlock_t M.1.1 P (src := 10) (i := 0) (n := m) (g := g) (Or.inr rfl) r ⟨by omega, c1⟩ (by omega) (fun k hk => by rw [Nat.zero_add]; exact ⟨hf k hk, hg k hk⟩) (by omega) (by have := M.2.1.1; omega) (by omega)
      rw [Nat.zero_add] at e1
      refine ⟨h1, pb1, ?_, P1, ?_⟩
      · rw [show (0 : Int32) = nI 0 from rfl, e1, Option.bind_some, P1.1.gr (k := 8) (x := 10) (fun _ => rfl), Option.bind_some, planNone P1.1 (by omega), Option.bind_some]
      · show Kp h h1 (s.2.2.2 + layN s.1 m g - s.2.2.2)
        rw [Nat.add_sub_cancel_left]
        exact K1
    · rw [if_neg c1] at hb hn ⊢
      have em : m = 25 := by omega
      subst em
      rw [if_neg (show ¬ nI 25 ≤ (24 : Int32) from nI_ge (a := 24) (by omega) (by omega))]
      obtain ⟨h1, pb1, e1, P1, r1, K1⟩ := planBlock_t M.1.1 P (src := 10) (i := 0) (n := 12) (g := g) (Or.inr rfl) r ⟨by omega, by omega⟩ (by omega) (fun k hk => by rw [Nat.zero_add]; exact ⟨hf k (by omega), hg k (by omega)⟩) (by omega) (by have := M.2.1.1; omega) (by omega)
      have M1 := edI_step (m := 12) M ⟨by omega, by omega⟩ (fun k hk => hg k (by omega)) (by omega)
      have hc1 := M1.2.1.2.1
      obtain ⟨h2, pb2, e2, P2, r2, K2⟩ := planBlock_t (S := (edL s 12 g).1) M1.1.1 P1 (src := 10) (i := 12) (n := 13) (g := fun k => g (12 + k)) (Or.inr rfl) r1 ⟨by omega, by omega⟩ (by omega) (fun k hk => ⟨hf _ (by omega), hg _ (by omega)⟩) (by omega) (by have := M1.2.1.1; omega) (by have hc1 : s.2.2.2 + layN s.1 12 g ≤ 0 + 1 := hc1; omega)
      rw [Nat.zero_add] at e1
      refine ⟨h2, pb2, ?_, P2, ?_⟩
      · rw [show (0 : Int32) = nI 0 from rfl, show (12 : Int32) = nI 12 from rfl, Option.bind_some, e1, Option.bind_some, P1.1.gr (k := 8) (x := 10) (fun _ => rfl), Option.bind_some]
        show (F_X8_planBlock 1 10 (nI 12) (nI (12 + 13)) h1).bind _ = _
        rw [e2, Option.bind_some]
      · have := K1.tr K2
        show Kp h h2 (s.2.2.2 + layN s.1 12 g + layN (layS s.1 12 g) 13 (fun k => g (12 + k)) - s.2.2.2)
        rw [show s.2.2.2 + layN s.1 12 g + layN (layS s.1 12 g) 13 (fun k => g (12 + k)) - s.2.2.2 = layN s.1 12 g + layN (layS s.1 12 g) 13 (fun k => g (12 + k)) by omega]
        exact this
end EX
