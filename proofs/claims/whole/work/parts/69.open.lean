/-! rows that are added to rows; all the signs of a version -/
section AP
theorem addPart_loop {a b cap cb m e : Nat} {g : Nat → Int32} (hab : b ≠ a ∧ b ≠ a + 1 ∧ b + 1 ≠ a) (he : e < 100000) : ∀ (q k i n : Nat) (f : Nat → Int32) (h : am_H), RowAt h a cap n f → RowAt h b cb m g → (k = 0 ∨ (i + k ≤ e ∧ i + k ≤ m)) → (e ≤ i + k ∨ m ≤ i + k) → i < 100000 → n + k ≤ cap → k < q →
    ∃ h' f', F_X4_addPart_7 q a b (nI e) (nI i) h = some h' ∧ RowAt h' a cap (n + k) f' ∧ (∀ j, j < n → f' j = f j) ∧ (∀ j, j < k → f' (n + j) = g (i + j)) ∧ Fr (fun q => q = a ∨ q = a + 1) h h'
  | 0, k, i, n, f, h, r1, r2, h1, h2, hi, h3, h4 => by omega
  | q + 1, 0, i, n, f, h, r1, r2, h1, h2, hi, h3, h4 => by
    refine ⟨h, f, ?_, r1, fun _ _ => rfl, fun j hj => by omega, Fr.rf⟩
    rw [F_X4_addPart_7]
    by_cases c : e ≤ i
    · rw [if_pos (nI_le c (by omega))]
      rfl
    · rw [if_neg (nI_ge (by omega) (by omega))]
      simp only [r2.gi, Option.bind_some]
      rw [if_pos (nI_le (by omega) (by omega))]
      rfl
  | q + 1, k + 1, i, n, f, h, r1, r2, h1, h2, hi, h3, h4 => by
    have hr := r2.2
    obtain ⟨h', e1, r1', F⟩ := row_add r1 (by omega) (g i)
    rw [F_X4_addPart_7, if_neg (nI_ge (by omega) (by omega))]
    simp only [r2.gi, Option.bind_some]
    rw [if_neg (nI_ge (by omega) (by omega))]
    simp only [row_at r2 (show i < m by omega), Option.bind_some, e1, nI_1]
    obtain ⟨h2, f2, e2, r3, g1, g2, F2⟩ := addPart_loop hab he q k (i + 1) (n + 1) (upd f n (g i)) h' r1' (r2.fr F (by omega) (by omega)) (by omega) (by omega) (by omega) (by omega) (by omega)
    refine ⟨h2, f2, e2, by rw [show n + (k + 1) = n + 1 + k by omega]; exact r3, fun j hj => by rw [g1 j (by omega), upd_ne (by omega)], fun j hj => ?_, F.tr F2 (fun _ z => z) (fun _ z => z)⟩
    cases j with
    | zero => rw [g1 (n + 0) (by omega)]; exact upd_self
    | succ j => rw [show n + (j + 1) = n + 1 + j by omega, g2 j (by omega), show i + 1 + j = i + (j + 1) by omega]
theorem row_addPart {a b cap cb m e n i k : Nat} {f g : Nat → Int32} {h : am_H} (hab : b ≠ a ∧ b ≠ a + 1 ∧ b + 1 ≠ a) (r1 : RowAt h a cap n f) (r2 : RowAt h b cb m g) (he : e < 100000) (hi : i < 100000) (h1 : k = 0 ∨ (i + k ≤ e ∧ i + k ≤ m)) (h2 : e ≤ i + k ∨ m ≤ i + k) (h3 : n + k ≤ cap) :
    ∃ h' f', F_X4_addPart a b (nI i) (nI e) h = some h' ∧ RowAt h' a cap (n + k) f' ∧ (∀ j, j < n → f' j = f j) ∧ (∀ j, j < k → f' (n + j) = g (i + j)) ∧ Fr (fun q => q = a ∨ q = a + 1) h h' := by
  have hr := r2.2
  have hr1 := r1.2
  simp only [F_X4_addPart, r1.1.1, Option.bind_some, F_X4_addPart_b, show (0 : Int32) = nI 0 from rfl, jmax (show 0 < 2 ^ 31 by omega) (show i < 2 ^ 31 by omega), show (if 0 < i then i else 0) = i by split <;> omega]
  exact addPart_loop hab he am_F k i n f h r1 r2 h1 h2 hi h3 (by show k < 100000; omega)
end AP
/-! the sign at a place -/
def sat (S : sS) (v p : Nat) : Nat := sg S (rw_ S v (loc S v p).1) (loc S v p).2
def tat (S : sS) (v p : Nat) : Bool := tn S (rw_ S v (loc S v p).1)
theorem loc_uniq {S : sS} {v i k : Nat} (hi : i < rl S v) (hk : k < ln S (rw_ S v i)) : sumN (fun i => ln S (rw_ S v i)) i + k < plc S v ∧ loc S v (sumN (fun i => ln S (rw_ S v i)) i + k) = (i, k) := by
  have h1 : sumN (fun i => ln S (rw_ S v i)) (i + 1) ≤ plc S v := sumN_mono (by omega)
  have h2 : sumN (fun i => ln S (rw_ S v i)) (i + 1) = sumN (fun i => ln S (rw_ S v i)) i + ln S (rw_ S v i) := rfl
  have h3 : sumN (fun i => ln S (rw_ S v i)) i + k < plc S v := by omega
  refine ⟨h3, ?_⟩
  obtain ⟨l1, l2, l3⟩ := loc_spec h3
  generalize loc S v (sumN (fun i => ln S (rw_ S v i)) i + k) = z at l1 l2 l3
  obtain ⟨i', k'⟩ := z
  have e : i' = i := by
    rcases Nat.lt_trichotomy i' i with c | c | c
    · exfalso
      have h4 : sumN (fun i => ln S (rw_ S v i)) (i' + 1) ≤ sumN (fun i => ln S (rw_ S v i)) i := sumN_mono (by omega)
      have h5 : sumN (fun i => ln S (rw_ S v i)) (i' + 1) = sumN (fun i => ln S (rw_ S v i)) i' + ln S (rw_ S v i') := rfl
      simp only at l2 l3
      omega
    · exact c
    · exfalso
      have h4 : sumN (fun i => ln S (rw_ S v i)) (i + 1) ≤ sumN (fun i => ln S (rw_ S v i)) i' := sumN_mono (by omega)
      simp only at l2 l3
      omega
  subst e
  simp only at l3
  rw [show k' = k by omega]
theorem loc_mono {S : sS} {v p q : Nat} (hpq : p ≤ q) (hq : q < plc S v) : (loc S v p).1 ≤ (loc S v q).1 := by
  obtain ⟨l1, l2, l3⟩ := loc_spec (show p < plc S v by omega)
  obtain ⟨m1, m2, m3⟩ := loc_spec hq
  rcases Nat.lt_or_ge (loc S v q).1 (loc S v p).1 with c | c
  · exfalso
    have h4 : sumN (fun i => ln S (rw_ S v i)) ((loc S v q).1 + 1) ≤ sumN (fun i => ln S (rw_ S v i)) (loc S v p).1 := sumN_mono (by omega)
    have h5 : sumN (fun i => ln S (rw_ S v i)) ((loc S v q).1 + 1) = sumN (fun i => ln S (rw_ S v i)) (loc S v q).1 + ln S (rw_ S v (loc S v q).1) := rfl
    omega
  · exact c
theorem sat_lt {S : sS} (w : WF S) {v p : Nat} (hv : v < nv S) (hp : p < plc S v) : sat S v p < 16 := by
  obtain ⟨l1, l2, l3⟩ := loc_spec hp
  exact (w.2.2.1.2 _ ((w.2.2.2.2 v hv).1.2 _ l1)).2 _ l2
theorem trn_0 {S : sS} {v : Nat} (h : trn S v = 0) : ∀ i, i < rl S v → tn S (rw_ S v i) = false := by
  intro i hi
  unfold trn at h
  rw [sumN_bN] at h
  cases ht : tn S (rw_ S v i) with
  | false => rfl
  | true =>
    exfalso
    have : ∀ n, i < n → 1 ≤ cntN (fun i => tn S (rw_ S v i)) n := by
      intro n
      induction n with
      | zero => intro z; omega
      | succ n ih =>
        intro z
        simp only [cntN]
        by_cases e : i = n
        · subst e; rw [ht]; show 1 ≤ _ + 1; omega
        · have := ih (by omega); omega
    have := this _ hi
    omega
/-! what calls may change of the rows that are used again -/
section OA
variable {Z : sZ} {S : sS} {pb pv : Nat → Nat} {h : am_H}
theorem openAll_loop (w : WF S) {v : Nat} (hv : v < nv S) : ∀ (q k i : Nat) (h : am_H) (f : Nat → Int32), RX Z S pb pv h → i + k = rl S v → k < q → RowAt h 12 192 (sumN (fun i => ln S (rw_ S v i)) i) f → (∀ j c, j < i → c < ln S (rw_ S v j) → tn S (rw_ S v j) = false → f (sumN (fun i => ln S (rw_ S v i)) j + c) = nI (sg S (rw_ S v j) c)) →
    ∃ h' f', F_X8_openAll_9 q 1 (rD (pv v)) (nI i) h = some h' ∧ RX Z S pb pv h' ∧ RowAt h' 12 192 (plc S v) f' ∧ (∀ j c, j < rl S v → c < ln S (rw_ S v j) → tn S (rw_ S v j) = false → f' (sumN (fun i => ln S (rw_ S v i)) j + c) = nI (sg S (rw_ S v j) c)) ∧ Fr (fun q => q = 12 ∨ q = 13) h h'
  | 0, k, i, h, f, C, h1, h2, r, hf => by omega
  | q + 1, 0, i, h, f, C, h1, h2, r, hf => by
    have hw := (w.2.2.2.2 v hv).1
    have V := C.2.2.2.2.2.2.1 v hv
    obtain ⟨g, hg, hg2⟩ := V.2.1
    have e : i = rl S v := by omega
    subst e
    rw [F_X8_openAll_9]
    simp only [V.f.1, Option.bind_some, row_length hg]
    rw [if_pos (nI_le (by omega) (by omega))]
    exact ⟨h, f, rfl, C, r, hf, Fr.rf⟩
  | q + 1, k + 1, i, h, f, C, h1, h2, r, hf => by
    have hi : i < rl S v := by omega
    have hw := (w.2.2.2.2 v hv).1
    have hl := plc_le w hv
    have V := C.2.2.2.2.2.2.1 v hv
    obtain ⟨g, hg, hg2⟩ := V.2.1
    have hb := hw.2 i hi
    have B := C.2.2.2.2.2.1 _ hb
    obtain ⟨s, hs, hs2⟩ := B.2.1
    have hlb := (w.2.2.1.2 _ hb).1
    have h5 : sumN (fun i => ln S (rw_ S v i)) (i + 1) ≤ plc S v := sumN_mono (by omega)
    have h6 : sumN (fun i => ln S (rw_ S v i)) (i + 1) = sumN (fun i => ln S (rw_ S v i)) i + ln S (rw_ S v i) := rfl
    rw [F_X8_openAll_9]
    simp only [V.f.1, Option.bind_some, row_length hg]
    rw [if_neg (nI_ge (by omega) (by omega))]
    obtain ⟨h', f', e', r', g1, g2, F⟩ := row_addPart (i := 0) (e := ln S (rw_ S v i)) (k := ln S (rw_ S v i)) (show rD (pb (rw_ S v i)) + 5 ≠ 12 ∧ rD (pb (rw_ S v i)) + 5 ≠ 12 + 1 ∧ rD (pb (rw_ S v i)) + 5 + 1 ≠ 12 by unfold rD; omega) r hs (by omega) (by omega) (by omega) (by omega) (by omega)
    simp only [row_at hg hi, hg2 i hi, Option.bind_some, blockOf_t w C hb, if_neg (rD_ne _), C.gr (k := 9) (x := 12) (fun _ => rfl), B.f.1, row_length hs, show (0 : Int32) = nI 0 from rfl, e', F_X8_openAll_56, nI_1]
    have C' : RX Z S pb pv h' := by
      obtain ⟨f2, a2, b2⟩ := C.2.1
      obtain ⟨f3, a3, b3⟩ := C.2.2.1
      obtain ⟨⟨pn, k1⟩, k2, k3, ⟨f4, a4, b4⟩, ⟨f5, a5, b5⟩, k6, k7, k8, k9, k10⟩ := C
      obtain ⟨s1, s2, s3, ⟨T, u0, u1, u2⟩, ⟨n1, n2, n3, n4, n5⟩, ⟨⟨ua, ub, uc, z1⟩, z2, ⟨gg, z3, z4⟩, z5⟩, ⟨⟨a', b', c', o1⟩, o2, o3⟩, ⟨⟨ta, y1⟩, y2, y3, y4, y5⟩, ⟨⟨ca, cb, x1⟩, x2, x3, ⟨TC, x4⟩, x6⟩⟩ := k8
      have ho : ∀ q, q < 12 ∨ 14 ≤ q → am_at h' q = am_at h q := fun q hq => F.2.2 q (by omega)
      exact ⟨⟨pn, (obj_at (F.2.2 _ (by omega))).trans k1⟩, ⟨f2, a2.fr F (by omega) (by omega), b2⟩, ⟨f3, a3.fr F (by omega) (by omega), b3⟩, ⟨f4, (ra_at (F.2.2 _ (by omega))).trans a4, b4⟩, ⟨f5, (ra_at (F.2.2 _ (by omega))).trans a5, b5⟩, fun b hb => (k6 b hb).fr F (fun q q1 _ => by unfold rD at q1; omega), fun v hv => (k7 v hv).fr F (fun q q1 _ => by unfold rD at q1; omega),
        ⟨bRow s1 F (by omega) (by omega), bRow s2 F (by omega) (by omega), ⟨_, _, r'⟩, ⟨T, u0.fr F (fun q q1 q2 => by omega), u1, u2⟩, ⟨(obj_at (ho _ (by omega))).trans n1, bIa n2 F (by omega), bIa n3 F (by omega), bIa n4 F (by omega), bRow n5 F (by omega) (by omega)⟩, ⟨⟨ua, ub, uc, (obj_at (ho _ (by omega))).trans z1⟩, bRow z2 F (by omega) (by omega), ⟨gg, (ra_at (ho _ (by omega))).trans z3, fun k hk => ⟨(z4 k hk).1, bRow (z4 k hk).2 F (by omega) (by omega)⟩⟩, bRow z5 F (by omega) (by omega)⟩, ⟨⟨a', b', c', (obj_at (ho _ (by omega))).trans o1⟩, bIa o2 F (by omega), bRow o3 F (by omega) (by omega)⟩, ⟨⟨ta, (obj_at (ho _ (by omega))).trans y1⟩, bIa y2 F (by omega), bIa y3 F (by omega), bRow y4 F (by omega) (by omega), bRow y5 F (by omega) (by omega)⟩, ⟨⟨ca, cb, (obj_at (ho _ (by omega))).trans x1⟩, bRow x2 F (by omega) (by omega), bRow x3 F (by omega) (by omega), ⟨TC, x4.fr F (fun q q1 q2 => by omega)⟩, bRow x6 F (by omega) (by omega)⟩⟩, k9, F.1.trans k10⟩
    obtain ⟨h2, f2, e2, C2, r2, hf2, F2⟩ := openAll_loop w hv q k (i + 1) h' f' C' (by omega) (by omega) r' (fun j c hj hc ht => by
      by_cases z : j = i
      · subst z
        rw [g2 c hc, Nat.zero_add, hs2 ht c hc]
      · have h7 : sumN (fun i => ln S (rw_ S v i)) (j + 1) ≤ sumN (fun i => ln S (rw_ S v i)) i := sumN_mono (by omega)
        have h8 : sumN (fun i => ln S (rw_ S v i)) (j + 1) = sumN (fun i => ln S (rw_ S v i)) j + ln S (rw_ S v j) := rfl
        rw [g1 _ (by omega)]
        exact hf j c (by omega) hc ht)
    exact ⟨h2, f2, e2, C2, r2, hf2, F.tr F2 (fun _ z => z) (fun _ z => z)⟩
theorem openAll_t (w : WF S) (C : RX Z S pb pv h) {v : Nat} (hv : v < nv S) : ∃ h' f', F_X8_openAll 1 (rD (pv v)) h = some h' ∧ RX Z S pb pv h' ∧ RowAt h' 12 192 (plc S v) f' ∧ (∀ p, p < plc S v → tat S v p = false → f' p = nI (sat S v p)) ∧ Fr (fun q => q = 12 ∨ q = 13) h h' := by
  have hw := (w.2.2.2.2 v hv).1
  obtain ⟨n, f, r⟩ := C.2.2.2.2.2.2.2.1.2.2.1
  obtain ⟨h1, e1, r1, F1⟩ := row_empty r
  have C' : RX Z S pb pv h1 := by
    have F := F1
    obtain ⟨f2, a2, b2⟩ := C.2.1
    obtain ⟨f3, a3, b3⟩ := C.2.2.1
    obtain ⟨⟨pn, k1⟩, k2, k3, ⟨f4, a4, b4⟩, ⟨f5, a5, b5⟩, k6, k7, k8, k9, k10⟩ := C
    obtain ⟨s1, s2, s3, ⟨T, u0, u1, u2⟩, ⟨n1, n2, n3, n4, n5⟩, ⟨⟨ua, ub, uc, z1⟩, z2, ⟨gg, z3, z4⟩, z5⟩, ⟨⟨a', b', c', o1⟩, o2, o3⟩, ⟨⟨ta, y1⟩, y2, y3, y4, y5⟩, ⟨⟨ca, cb, x1⟩, x2, x3, ⟨TC, x4⟩, x6⟩⟩ := k8
    have ho : ∀ q, q < 12 ∨ 14 ≤ q → am_at h1 q = am_at h q := fun q hq => F.2.2 q (by omega)
    exact ⟨⟨pn, (obj_at (F.2.2 _ (by omega))).trans k1⟩, ⟨f2, a2.fr F (by omega) (by omega), b2⟩, ⟨f3, a3.fr F (by omega) (by omega), b3⟩, ⟨f4, (ra_at (F.2.2 _ (by omega))).trans a4, b4⟩, ⟨f5, (ra_at (F.2.2 _ (by omega))).trans a5, b5⟩, fun b hb => (k6 b hb).fr F (fun q q1 _ => by unfold rD at q1; omega), fun v hv => (k7 v hv).fr F (fun q q1 _ => by unfold rD at q1; omega),
      ⟨bRow s1 F (by omega) (by omega), bRow s2 F (by omega) (by omega), ⟨_, _, r1⟩, ⟨T, u0.fr F (fun q q1 q2 => by omega), u1, u2⟩, ⟨(obj_at (ho _ (by omega))).trans n1, bIa n2 F (by omega), bIa n3 F (by omega), bIa n4 F (by omega), bRow n5 F (by omega) (by omega)⟩, ⟨⟨ua, ub, uc, (obj_at (ho _ (by omega))).trans z1⟩, bRow z2 F (by omega) (by omega), ⟨gg, (ra_at (ho _ (by omega))).trans z3, fun k hk => ⟨(z4 k hk).1, bRow (z4 k hk).2 F (by omega) (by omega)⟩⟩, bRow z5 F (by omega) (by omega)⟩, ⟨⟨a', b', c', (obj_at (ho _ (by omega))).trans o1⟩, bIa o2 F (by omega), bRow o3 F (by omega) (by omega)⟩, ⟨⟨ta, (obj_at (ho _ (by omega))).trans y1⟩, bIa y2 F (by omega), bIa y3 F (by omega), bRow y4 F (by omega) (by omega), bRow y5 F (by omega) (by omega)⟩, ⟨⟨ca, cb, (obj_at (ho _ (by omega))).trans x1⟩, bRow x2 F (by omega) (by omega), bRow x3 F (by omega) (by omega), ⟨TC, x4.fr F (fun q q1 q2 => by omega)⟩, bRow x6 F (by omega) (by omega)⟩⟩, k9, F.1.trans k10⟩
  obtain ⟨h2, f2, e2, C2, r2, hf2, F2⟩ := openAll_loop w hv am_F (rl S v) 0 h1 f C' (by omega) (by show _ < 100000; omega) r1 (fun j c hj hc ht => by omega)
  refine ⟨h2, f2, ?_, C2, r2, fun p hp ht => ?_, (F1.mono (T := fun q => q = 12 ∨ q = 13) (fun _ z => Or.inl z)).tr F2 (fun _ z => z) (fun _ z => z)⟩
  · simp only [F_X8_openAll, C.ob, F_X8_openAll_b, C.gr (k := 9) (x := 12) (fun _ => rfl), Option.bind_some, e1]
    exact e2
  · obtain ⟨l1, l2, l3⟩ := loc_spec hp
    have := hf2 _ _ l1 l2 ht
    rw [l3] at this
    exact this
end OA
