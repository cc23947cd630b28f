/-! versions edited: what both come to -/
def edL (s : sM) (m : Nat) (g : Nat → Nat) : sM := (layS s.1 m g, s.2.1 + 1, updN s.2.2.1 s.2.1 (lkB s.1 m g), s.2.2.2 + layN s.1 m g)
def ed0 (S : sS) (v i : Nat) : sM := (S, i, apP (fun _ => 0) 0 (rw_ S v) 0, 0)
def plS (s : sM) (m : Nat) (g : Nat → Nat) : sM := if m = 0 then s else if m ≤ 24 then edL s m g else edL (edL s 12 g) 13 (fun k => g (12 + k))
def edE (S : sS) (v i : Nat) (s : sM) : sS := S_v s.1 (s.2.1 + (rl S v - (i + 1))) (apP s.2.2.1 s.2.1 (rw_ S v) (i + 1)) (nI v) s.2.2.2
def gS (s : Nat → Nat) (p x k' : Nat) : Nat → Nat := fun k => if k < p then s k else if k = p then x else s (k - 1 + k')
def gK (s : Nat → Nat) (p : Nat) : Nat → Nat := fun k => if k < p then s k else s (k + 1)
def edI (S : sS) (k : Nat) (s : sM) : Prop := (WF s.1 ∧ s.1.1 = S.1 ∧ s.1.2.1 = S.2.1 ∧ s.1.2.2.2 = S.2.2.2) ∧ (nb s.1 = nb S + s.2.2.2 ∧ s.2.2.2 ≤ k) ∧ ∀ j, j < s.2.1 → s.2.2.1 j < nb s.1 ∧ tn s.1 (s.2.2.1 j) = false
theorem edI_step {S : sS} {k m : Nat} {s : sM} {g : Nat → Nat} (M : edI S k s) (hm : 1 ≤ m ∧ m ≤ 24) (hg : ∀ k, k < m → g k < 16) (hb : nb S + k < 200) : edI S (k + 1) (edL s m g) := by
  obtain ⟨⟨m1, m2, m3, m4⟩, ⟨m5, m6⟩, m8⟩ := M
  have hb : nb s.1 < 200 := by omega
  obtain ⟨l1, l2, l3, l4, l5⟩ := lay_ok (S := s.1) (n := m) (g := g)
  obtain ⟨v1, v2, v3⟩ := lay_vs s.1 m g
  refine ⟨⟨WF_lay m1 hm hg hb, v1.trans m2, v2.trans m3, v3.trans m4⟩, ⟨by show nb (layS s.1 m g) = nb S + (s.2.2.2 + layN s.1 m g); rw [l1, m5]; omega, by show s.2.2.2 + layN s.1 m g ≤ k + 1; omega⟩, fun j hj => ?_⟩
  have hj : j < s.2.1 + 1 := hj
  show updN s.2.2.1 s.2.1 (lkB s.1 m g) j < nb (layS s.1 m g) ∧ tn (layS s.1 m g) (updN s.2.2.1 s.2.1 (lkB s.1 m g) j) = false
  by_cases z : j = s.2.1
  · rw [z, updN_self]; exact ⟨l2, l3⟩
  · obtain ⟨a1, a2⟩ := m8 j (by omega)
    rw [updN_ne z, l4 _ a1]
    exact ⟨by omega, a2⟩
theorem edI_v {S : sS} {k : Nat} {s : sM} (M : edI S k s) : nv s.1 = nv S ∧ rl s.1 = rl S ∧ rw_ s.1 = rw_ S := ⟨congrArg (fun q : Nat × (Nat → Nat) × (Nat → Nat → Nat) × (Nat → Int32) × (Nat → Nat) × (Nat → Nat → Nat) × (Nat → Nat → Nat) => q.1) M.1.2.2.2, congrArg (fun q : Nat × (Nat → Nat) × (Nat → Nat → Nat) × (Nat → Int32) × (Nat → Nat) × (Nat → Nat → Nat) × (Nat → Nat → Nat) => q.2.1) M.1.2.2.2, congrArg (fun q : Nat × (Nat → Nat) × (Nat → Nat → Nat) × (Nat → Int32) × (Nat → Nat) × (Nat → Nat → Nat) × (Nat → Nat → Nat) => q.2.2.1) M.1.2.2.2⟩
/-- how many blocks are laid -/
def lys (m : Nat) : Nat := if m = 0 then 0 else if m ≤ 24 then 1 else 2
theorem edI_pl {S : sS} {m : Nat} {s : sM} {g : Nat → Nat} (M : edI S 0 s) (hm : m ≤ 25) (hg : ∀ k, k < m → g k < 16) (hb : nb S + lys m ≤ 200) : edI S (lys m) (plS s m g) ∧ (plS s m g).2.1 = s.2.1 + lys m := by
  unfold plS lys at *
  by_cases c0 : m = 0
  · rw [if_pos c0, if_pos c0]; exact ⟨M, rfl⟩
  · rw [if_neg c0, if_neg c0]
    by_cases c1 : m ≤ 24
    · rw [if_pos c1, if_pos c1]
      rw [if_neg c0, if_pos c1] at hb
      exact ⟨edI_step M ⟨by omega, c1⟩ hg (by omega), rfl⟩
    · rw [if_neg c1, if_neg c1]
      rw [if_neg c0, if_neg c1] at hb
      exact ⟨edI_step (edI_step M ⟨by omega, by omega⟩ (fun k hk => hg k (by omega)) (by omega)) ⟨by omega, by omega⟩ (fun k hk => hg _ (by omega)) (by omega), rfl⟩
theorem edI_0 {S : sS} (w : WF S) {v i : Nat} (hv : v < nv S) (h0 : trn S v = 0) (hi : i ≤ rl S v) : edI S 0 (ed0 S v i) := by
  refine ⟨⟨w, rfl, rfl, rfl⟩, ⟨rfl, Nat.le_refl _⟩, fun j hj => ?_⟩
  have hj : j < i := hj
  show apP (fun _ => 0) 0 (rw_ S v) 0 j < nb S ∧ tn S (apP (fun _ => 0) 0 (rw_ S v) 0 j) = false
  unfold apP
  rw [if_neg (by omega), show 0 + (j - 0) = j by omega]
  exact ⟨(w.2.2.2.2 v hv).1.2 j (by omega), trn_0 h0 j (by omega)⟩
/-- the end of the edit -/
theorem edE_ok {S : sS} (w : WF S) {v i k : Nat} {s : sM} (hv : v < nv S) (h0 : trn S v = 0) (M : edI S k s) : ∀ j, j < s.2.1 + (rl S v - (i + 1)) → apP s.2.2.1 s.2.1 (rw_ S v) (i + 1) j < nb s.1 ∧ tn s.1 (apP s.2.2.1 s.2.1 (rw_ S v) (i + 1) j) = false := fun j hj => by
  unfold apP
  by_cases c : j < s.2.1
  · rw [if_pos c]; exact M.2.2 j c
  · rw [if_neg c]
    have hb := (w.2.2.2.2 v hv).1.2 (i + 1 + (j - s.2.1)) (by omega)
    have ht := trn_0 h0 (i + 1 + (j - s.2.1)) (by omega)
    have h1 := M.2.1.1
    refine ⟨by omega, ?_⟩
    -- blocks of the version are as they were
    sorry
