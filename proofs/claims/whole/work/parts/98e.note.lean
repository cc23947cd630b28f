/-! the reference notes a version -/
section NM
variable {X : Fin 87 → am_C} {Y : am_H} {S : sS} {n c : Nat} {f : Nat → Nat}
theorem RM.wv {I : Nat → Int32} {A A' : Nat → Nat → Int32} (w : WF S) (R : RM S I A) (h0 : ∀ q, q < 7 ∨ 12 < q → A' q = A q) (h1 : ∀ x, x < nv S → A' 7 x = A 7 x ∧ A' 9 x = A 9 x ∧ A' 10 x = A 10 x) (h8 : ∀ x, x < 8 * nv S → A' 8 x = A 8 x) (h11 : ∀ x, x < 24 * nv S → A' 11 x = A 11 x ∧ A' 12 x = A 12 x) : RM S I A' := by
  obtain ⟨r1, r2, r3, r4, r5⟩ := R
  rw [RM, h0 1 (by omega), h0 40 (by omega), h0 3 (by omega), h0 4 (by omega), h0 5 (by omega)]
  refine ⟨r1, r2, r3, r4, fun v hv => ?_⟩
  obtain ⟨a1, a2, a3, a4, a5⟩ := r5 v hv
  have hw := (w.2.2.2.2 v hv).1.1
  obtain ⟨b1, b2, b3⟩ := h1 v hv
  rw [b1, b2, b3]
  refine ⟨a1, fun i hi => ?_, a3, a4, fun k hk => ?_⟩
  · rw [h8 _ (by omega)]; exact a2 i hi
  · rw [(h11 _ (by omega)).1, (h11 _ (by omega)).2]; exact a5 k hk
theorem note_88 {K : Nat → Int32 → am_H → Option (Int32 × am_H)} {I : Nat → Int32} {A : Nat → Nat → Int32} (w : WF S) (R : RM S I A) (P : MP I A n f c) (hn : n ≤ 8) (hf : ∀ i, i < n → f i < nb S) (hv : nv S < 30) {k : Nat} (hk : k < 24) : ∀ (q m i : Nat), i + m = n → m < q →
    F_X9_note_88 K q 88 (nI k) (nI (sumN (fun i => num S (f i) k) i)) (nI (sumN (fun i => (i + 1) * num S (f i) k) i)) (nI i) (md X I A Y) = K 88 (nI (k + 1)) (md X I (upA (upA A 11 (24 * nv S + k) (nI (sumN (fun i => num S (f i) k) n % 17))) 12 (24 * nv S + k) (nI (sumN (fun i => (i + 1) * num S (f i) k) n % 17))) Y)
  | 0, m, i, h1, h2 => by omega
  | q + 1, 0, i, h1, h2 => by
    have ei : i = n := by omega
    subst ei
    have b1 := sumN_le (f := fun i => num S (f i) k) (c := 16) i (fun j hj => num_le w (hf j hj))
    have b2 := sumN_le (f := fun i => (i + 1) * num S (f i) k) (c := 128) i (fun j hj => by
      have e1 := num_le (k := k) w (hf j hj)
      have : (j + 1) * num S (f j) k ≤ 8 * 16 := Nat.mul_le_mul (by omega) e1
      omega)
    rw [F_X9_note_88, md_gi16, Option.bind_some, P.1, if_pos (nI_le (Nat.le_refl _) (by omega)), md_gr11, Option.bind_some, md_gi6, Option.bind_some, R.2.2.2.1, show (24 : Int32) = nI 24 from rfl, nI_mulN, nI_add, show (17 : Int32) = nI 17 from rfl, mod_nI (by omega) (by omega) (by omega), md_is11, ix_nI (show 24 * nv S + k < 720 by omega) (by decide), Option.bind_some, Option.bind_some, md_gr12, Option.bind_some, md_gi6, Option.bind_some, R.2.2.2.1, nI_mulN, nI_add, mod_nI (by omega) (by omega) (by omega), md_is12, ix_nI (show 24 * nv S + k < 720 by omega) (by decide), Option.bind_some, Option.bind_some, nI_1]
  | q + 1, m + 1, i, h1, h2 => by
    have hfi := hf i (by omega)
    have hl := w.2.2.1.2 _ hfi
    have hnb := w.2.2.1.1
    have ih := note_88 (K := K) w R P hn hf hv hk q m (i + 1) (by omega) (by omega)
    rw [show sumN (fun i => num S (f i) k) (i + 1) = sumN (fun i => num S (f i) k) i + num S (f i) k from rfl, show sumN (fun i => (i + 1) * num S (f i) k) (i + 1) = sumN (fun i => (i + 1) * num S (f i) k) i + (i + 1) * num S (f i) k from rfl] at ih
    rw [F_X9_note_88, md_gi16, Option.bind_some, P.1, if_neg (nI_ge (by omega) (by omega)), md_gr3, Option.bind_some, md_gr15, Option.bind_some, md_il15, ix_nI (show i < 9 by omega) (by decide), Option.bind_some, Option.bind_some, P.2.2 i (by omega), A3 w R hfi, Option.bind_some]
    unfold F_X9_note_130
    by_cases c1 : k < ln S (f i)
    · have en : num S (f i) k = sg S (f i) k := if_pos c1
      rw [en] at ih
      rw [if_neg (nI_ge c1 (by omega)), Option.bind_some, md_il15, ix_nI (show i < 9 by omega) (by decide), Option.bind_some, Option.bind_some, P.2.2 i (by omega), A4 w R hfi c1, Option.bind_some, nI_1, nI_add, nI_mulN, nI_add, Nat.mul_comm (sg S (f i) k)]
      exact ih
    · have en : num S (f i) k = 16 := if_neg c1
      rw [en] at ih
      rw [if_pos (nI_le (by omega) (by omega)), show (16 : Int32) = nI 16 from rfl, nI_1, nI_add, nI_mulN, nI_add, Nat.mul_comm 16]
      exact ih
theorem note_74 {I : Nat → Int32} (w : WF S) (hn : n ≤ 8) (hf : ∀ i, i < n → f i < nb S) (hv : nv S < 30) : ∀ (q m k : Nat) (A : Nat → Nat → Int32), RM S I A → MP I A n f c → k + m = 24 → m < q → (∀ j, j < k → A 11 (24 * nv S + j) = nI (sumN (fun i => num S (f i) j) n % 17) ∧ A 12 (24 * nv S + j) = nI (sumN (fun i => (i + 1) * num S (f i) j) n % 17)) →
    ∃ A', F_X9_note_74 q 88 (nI k) (md X I A Y) = some (nI (nv S), md X (upd I 6 (nI (nv S + 1))) A' Y) ∧ RM S I A' ∧ MP I A' n f c ∧ (∀ j, j < 24 → A' 11 (24 * nv S + j) = nI (sumN (fun i => num S (f i) j) n % 17) ∧ A' 12 (24 * nv S + j) = nI (sumN (fun i => (i + 1) * num S (f i) j) n % 17)) ∧ ∀ q, q ≠ 11 → q ≠ 12 → A' q = A q
  | 0, m, k, A, R, P, h1, h2, h3 => by omega
  | q + 1, 0, k, A, R, P, h1, h2, h3 => by
    rw [F_X9_note_74, if_pos (show (24 : Int32) ≤ nI k from nI_le (a := 24) (by omega) (by omega)), md_gi6, Option.bind_some, R.2.2.2.1, nI_1, md_pi6, Option.bind_some, md_gi6, Option.bind_some, upd_self, pre_nI]
    exact ⟨A, rfl, R, P, fun j hj => h3 j (by omega), fun _ _ _ => rfl⟩
  | q + 1, m + 1, k, A, R, P, h1, h2, h3 => by
    rw [F_X9_note_74, if_neg (show ¬ (24 : Int32) ≤ nI k from nI_ge (b := 24) (by omega) (by decide))]
    have R1 : RM S I (upA (upA A 11 (24 * nv S + k) (nI (sumN (fun i => num S (f i) k) n % 17))) 12 (24 * nv S + k) (nI (sumN (fun i => (i + 1) * num S (f i) k) n % 17))) := R.wv w (fun q hq => by rw [upA_ne (by omega), upA_ne (by omega)]) (fun x hx => by rw [upA_ne (by decide), upA_ne (by decide), upA_ne (by decide), upA_ne (by decide), upA_ne (by decide), upA_ne (by decide)]; exact ⟨rfl, rfl, rfl⟩) (fun x hx => by rw [upA_ne (by decide), upA_ne (by decide)]) (fun x hx => by
      rw [upA_ne (by decide), upA_self, upA_self, upd_ne (by omega), upd_ne (by omega), upA_ne (by decide)]
      exact ⟨rfl, rfl⟩)
    have P1 : MP I (upA (upA A 11 (24 * nv S + k) (nI (sumN (fun i => num S (f i) k) n % 17))) 12 (24 * nv S + k) (nI (sumN (fun i => (i + 1) * num S (f i) k) n % 17))) n f c := ⟨P.1, P.2.1, fun j hj => by rw [upA_ne (by decide), upA_ne (by decide)]; exact P.2.2 j hj⟩
    obtain ⟨A', e, R', P', g1, g2⟩ := note_74 w hn hf hv q m (k + 1) _ R1 P1 (by omega) (by omega) (fun j hj => by
      rw [upA_ne (by decide), upA_self, upA_self, upA_ne (by decide)]
      by_cases z : j = k
      · rw [z, upd_self, upd_self]; exact ⟨rfl, rfl⟩
      · rw [upd_ne (by omega), upd_ne (by omega)]; exact h3 j (by omega))
    exact ⟨A', (note_88 (K := F_X9_note_74 q) w R P hn hf hv (show k < 24 by omega) am_F n 0 (by omega) (by show _ < 100000; omega)).trans e, R', P', g1, fun q h1 h2 => by rw [g2 q h1 h2, upA_ne h2, upA_ne h1]⟩
theorem note_2 {I : Nat → Int32} {p : Int32} (w : WF S) (hn : n ≤ 8) (hf : ∀ i, i < n → f i < nb S) (hv : nv S < 30) : ∀ (q m i : Nat) (A : Nat → Nat → Int32), RM S I A → MP I A n f c → i + m = n → m < q → (∀ j, j < i → A 8 (8 * nv S + j) = nI (f j)) →
    ∃ A', F_X9_note_2 q 88 p (nI i) (md X I A Y) = some (nI (nv S), md X (upd I 6 (nI (nv S + 1))) A' Y) ∧ RM (S_v S n f p c) (upd I 6 (nI (nv S + 1))) A'
  | 0, m, i, A, R, P, h1, h2, h3 => by omega
  | q + 1, 0, i, A, R, P, h1, h2, h3 => by
    have ei : i = n := by omega
    subst ei
    rw [F_X9_note_2, md_gi16, Option.bind_some, P.1, if_pos (nI_le (Nat.le_refl _) (by omega)), md_gr7, Option.bind_some, md_gi6, Option.bind_some, Option.bind_some, R.2.2.2.1, md_is7, ix_nI hv (by decide), Option.bind_some, Option.bind_some, md_gr9, Option.bind_some, md_gi6, Option.bind_some, R.2.2.2.1, md_is9, ix_nI hv (by decide), Option.bind_some, Option.bind_some, md_gr10, Option.bind_some, md_gi6, Option.bind_some, R.2.2.2.1, md_gi17, Option.bind_some, P.2.1, md_is10, ix_nI hv (by decide), Option.bind_some, Option.bind_some]
    have hA : ∀ q, q ≠ 7 → q ≠ 9 → q ≠ 10 → upA (upA (upA A 7 (nv S) (nI i)) 9 (nv S) p) 10 (nv S) (nI c) q = A q := fun q h1 h2 h3 => by rw [upA_ne h3, upA_ne h2, upA_ne h1]
    have a7 : upA (upA (upA A 7 (nv S) (nI i)) 9 (nv S) p) 10 (nv S) (nI c) 7 = upd (A 7) (nv S) (nI i) := by rw [upA_ne (by decide), upA_ne (by decide), upA_self]
    have a9 : upA (upA (upA A 7 (nv S) (nI i)) 9 (nv S) p) 10 (nv S) (nI c) 9 = upd (A 9) (nv S) p := by rw [upA_ne (by decide), upA_self, upA_ne (by decide)]
    have a10 : upA (upA (upA A 7 (nv S) (nI i)) 9 (nv S) p) 10 (nv S) (nI c) 10 = upd (A 10) (nv S) (nI c) := by rw [upA_self, upA_ne (by decide), upA_ne (by decide)]
    have R1 : RM S I (upA (upA (upA A 7 (nv S) (nI i)) 9 (nv S) p) 10 (nv S) (nI c)) := R.wv w (fun q hq => hA q (by omega) (by omega) (by omega)) (fun x hx => by rw [a7, a9, a10, upd_ne (by omega), upd_ne (by omega), upd_ne (by omega)]; exact ⟨rfl, rfl, rfl⟩) (fun x hx => by rw [hA 8 (by decide) (by decide) (by decide)]) (fun x hx => by rw [hA 11 (by decide) (by decide) (by decide), hA 12 (by decide) (by decide) (by decide)]; exact ⟨rfl, rfl⟩)
    obtain ⟨A', e, R', P', g1, g2⟩ := note_74 (X := X) (Y := Y) (I := I) w hn hf hv am_F 24 0 _ R1 ⟨P.1, P.2.1, fun j hj => by rw [hA 15 (by decide) (by decide) (by decide)]; exact P.2.2 j hj⟩ (by omega) (by show _ < 100000; omega) (fun j hj => by omega)
    refine ⟨A', e, ⟨⟨(upd_ne (by decide)).trans R'.1.1, R'.1.2⟩, ⟨(upd_ne (by decide)).trans R'.2.1.1, R'.2.1.2⟩, ⟨(upd_ne (by decide)).trans R'.2.2.1.1, R'.2.2.1.2⟩, upd_self, fun v hv' => ?_⟩⟩
    have hv' : v < nv S + 1 := hv'
    by_cases z : v = nv S
    · have e1 : rl (S_v S i f p c) v = i := by rw [z]; exact updN_self
      have e2 : rw_ (S_v S i f p c) v = f := if_pos z
      have e3 : s1 (S_v S i f p c) v = fun k => sumN (fun i => num S (f i) k) i % 17 := if_pos z
      have e4 : s2 (S_v S i f p c) v = fun k => sumN (fun i => (i + 1) * num S (f i) k) i % 17 := if_pos z
      have e5 : pr (S_v S i f p c) v = p := if_pos z
      have e6 : fr (S_v S i f p c) v = c := by rw [z]; exact updN_self
      rw [e1, e2, e3, e4, e5, e6, z, g2 7 (by decide) (by decide), g2 8 (by decide) (by decide), g2 9 (by decide) (by decide), g2 10 (by decide) (by decide), a7, a9, a10, hA 8 (by decide) (by decide) (by decide), upd_self, upd_self, upd_self]
      exact ⟨rfl, h3, rfl, rfl, g1⟩
    · have e1 : rl (S_v S i f p c) v = rl S v := updN_ne z
      have e2 : rw_ (S_v S i f p c) v = rw_ S v := if_neg z
      have e3 : s1 (S_v S i f p c) v = s1 S v := if_neg z
      have e4 : s2 (S_v S i f p c) v = s2 S v := if_neg z
      have e5 : pr (S_v S i f p c) v = pr S v := if_neg z
      have e6 : fr (S_v S i f p c) v = fr S v := updN_ne z
      rw [e1, e2, e3, e4, e5, e6]
      exact R'.2.2.2.2 v (by omega)
  | q + 1, m + 1, i, A, R, P, h1, h2, h3 => by
    have R1 : RM S I (upA A 8 (8 * nv S + i) (nI (f i))) := R.wv w (fun q hq => upA_ne (by omega)) (fun x hx => by rw [upA_ne (by decide), upA_ne (by decide), upA_ne (by decide)]; exact ⟨rfl, rfl, rfl⟩) (fun x hx => by rw [upA_self, upd_ne (by omega)]) (fun x hx => by rw [upA_ne (by decide), upA_ne (by decide)]; exact ⟨rfl, rfl⟩)
    obtain ⟨A', e, R'⟩ := note_2 (p := p) w hn hf hv q m (i + 1) _ R1 ⟨P.1, P.2.1, fun j hj => by rw [upA_ne (by decide)]; exact P.2.2 j hj⟩ (by omega) (by omega) (fun j hj => by
      rw [upA_self]
      by_cases z : j = i
      · rw [z, upd_self]
      · rw [upd_ne (by omega)]; exact h3 j (by omega))
    refine ⟨A', ?_, R'⟩
    rw [F_X9_note_2, md_gi16, Option.bind_some, P.1, if_neg (nI_ge (by omega) (by omega)), md_gr8, Option.bind_some, md_gi6, Option.bind_some, R.2.2.2.1, md_gr15, Option.bind_some, md_il15, ix_nI (show i < 9 by omega) (by decide), Option.bind_some, Option.bind_some, P.2.2 i (by omega), show (8 : Int32) = nI 8 from rfl, nI_mulN, nI_add, md_is8, ix_nI (show 8 * nv S + i < 240 by omega) (by decide), Option.bind_some, Option.bind_some, nI_1]
    exact e
theorem note_t {I : Nat → Int32} {A : Nat → Nat → Int32} (w : WF S) (R : RM S I A) (P : MP I A n f c) (hn : n ≤ 8) (hf : ∀ i, i < n → f i < nb S) (hv : nv S < 30) (p : Int32) : ∃ I' A', F_X9_note 88 p (md X I A Y) = some (nI (nv S), md X I' A' Y) ∧ RM (S_v S n f p c) I' A' := by
  obtain ⟨A', e, R'⟩ := note_2 (X := X) (Y := Y) (p := p) w hn hf hv am_F n 0 A R P (by omega) (by show _ < 100000; omega) (fun j hj => by omega)
  refine ⟨_, A', ?_, R'⟩
  unfold F_X9_note F_X9_note_b
  rw [md_obj, Option.bind_some]
  exact e
/-! rows of blocks and signs are taken -/
def apP (f : Nat → Nat) (n : Nat) (src : Nat → Nat) (a : Nat) : Nat → Nat := fun j => if j < n then f j else src (a + (j - n))
theorem take_3 {I : Nat → Int32} {A : Nat → Nat → Int32} (w : WF S) {v a : Nat} (hv : v < nv S) : ∀ (q m i : Nat) (I : Nat → Int32) (A : Nat → Nat → Int32), RM S I A → MP I A (n + i) (apP f n (rw_ S v) a) c → a + i + m ≤ rl S v → n + i + m ≤ 9 → m < q →
    ∃ I' A', F_X9_takeBlocks_3 q 88 (nI v) (nI (a + i + m)) (nI (a + i)) (md X I A Y) = some (md X I' A' Y) ∧ RM S I' A' ∧ MP I' A' (n + i + m) (apP f n (rw_ S v) a) c ∧ I' 14 = I 14 ∧ A' 13 = A 13 ∧ I' 19 = I 19
  | 0, m, i, I, A, R, P, h1, h2, h3 => by omega
  | q + 1, 0, i, I, A, R, P, h1, h2, h3 => by
    have hw := (w.2.2.2.2 v hv).1
    rw [F_X9_takeBlocks_3, if_pos (nI_le (by omega) (by omega))]
    exact ⟨I, A, rfl, R, P, rfl, rfl, rfl⟩
  | q + 1, m + 1, i, I, A, R, P, h1, h2, h3 => by
    have hw := (w.2.2.2.2 v hv).1
    have hv30 : v < 30 := Nat.lt_of_lt_of_le hv w.2.2.2.1
    have R1 : RM S (upd I 16 (nI (n + (i + 1)))) (upA A 15 (n + i) (nI (rw_ S v (a + i)))) := RM_IA R (fun k hk => upd_ne (by omega)) (fun q hq => upA_ne (by omega))
    have P1 : MP (upd I 16 (nI (n + (i + 1)))) (upA A 15 (n + i) (nI (rw_ S v (a + i)))) (n + (i + 1)) (apP f n (rw_ S v) a) c := ⟨upd_self, (upd_ne (by decide)).trans P.2.1, fun j hj => by
      rw [upA_self]
      by_cases z : j = n + i
      · rw [z, upd_self]
        unfold apP
        rw [if_neg (by omega), show a + (n + i - n) = a + i by omega]
      · rw [upd_ne z]; exact P.2.2 j (by omega)⟩
    obtain ⟨I', A', e, R', P', e1, e2, e3⟩ := take_3 (I := I) (A := A) w hv q m (i + 1) _ _ R1 P1 (by omega) (by omega) (by omega)
    refine ⟨I', A', ?_, R', by rw [show n + i + (m + 1) = n + (i + 1) + m by omega]; exact P', e1.trans (upd_ne (by decide)), e2.trans (upA_ne (by decide)), e3.trans (upd_ne (by decide))⟩
    rw [F_X9_takeBlocks_3, if_neg (nI_ge (by omega) (by omega)), md_gr15, Option.bind_some, md_gi16, Option.bind_some, P.1, blockAt_spec (show 8 * v + (a + i) < 240 by omega), Option.bind_some, (R.2.2.2.2 v hv).2.1 (a + i) (by omega), md_is15, ix_nI (show n + i < 9 by omega) (by decide), Option.bind_some, Option.bind_some, md_gi16, Option.bind_some, P.1, nI_1, md_pi16, Option.bind_some, nI_1, show a + i + (m + 1) = a + (i + 1) + m by omega]
    exact e
theorem take_t {I : Nat → Int32} {A : Nat → Nat → Int32} (w : WF S) (R : RM S I A) (P : MP I A n f c) {v a b : Nat} (hv : v < nv S) (hab : a ≤ b) (hb : b ≤ rl S v) (hn : n + (b - a) ≤ 9) : ∃ I' A', F_X9_takeBlocks 88 (nI v) (nI a) (nI b) (md X I A Y) = some (md X I' A' Y) ∧ RM S I' A' ∧ MP I' A' (n + (b - a)) (apP f n (rw_ S v) a) c ∧ I' 14 = I 14 ∧ A' 13 = A 13 ∧ I' 19 = I 19 := by
  have hw := (w.2.2.2.2 v hv).1
  have P0 : MP I A (n + 0) (apP f n (rw_ S v) a) c := ⟨P.1, P.2.1, fun j hj => by unfold apP; rw [if_pos (show j < n from hj)]; exact P.2.2 j hj⟩
  obtain ⟨I', A', e, R', P', e1⟩ := take_3 (X := X) (Y := Y) (I := I) (A := A) w hv am_F (b - a) 0 I A R P0 (by omega) (by omega) (by show _ < 100000; omega)
  refine ⟨I', A', ?_, R', P', e1⟩
  unfold F_X9_takeBlocks F_X9_takeBlocks_b
  rw [md_obj, Option.bind_some]
  rw [show a + 0 + (b - a) = b by omega] at e
  exact e
theorem sign_12 (w : WF S) {b : Nat} (hb : b < nb S) : ∀ (q m k : Nat) (I : Nat → Int32) (A : Nat → Nat → Int32), RM S I A → I 14 = nI (ln S b) → (∀ j, j < k → A 13 j = nI (sg S b j)) → k + m = ln S b → m < q →
    ∃ A', F_X9_takeSigns_12 q 88 (nI b) (nI k) (md X I A Y) = some (md X I A' Y) ∧ (∀ j, j < ln S b → A' 13 j = nI (sg S b j)) ∧ ∀ q, q ≠ 13 → A' q = A q
  | 0, m, k, I, A, R, h1, h2, h3, h4 => by omega
  | q + 1, 0, k, I, A, R, h1, h2, h3, h4 => by
    have hl := w.2.2.1.2 b hb
    rw [F_X9_takeSigns_12, md_gi14, Option.bind_some, h1, if_pos (nI_le (by omega) (by omega))]
    exact ⟨A, rfl, fun j hj => h2 j (by omega), fun _ _ => rfl⟩
  | q + 1, m + 1, k, I, A, R, h1, h2, h3, h4 => by
    have hl := w.2.2.1.2 b hb
    rw [F_X9_takeSigns_12, md_gi14, Option.bind_some, h1, if_neg (nI_ge (by omega) (by omega)), md_gr13, Option.bind_some, A4 w R hb (show k < ln S b by omega), Option.bind_some, md_is13, ix_nI (show k < 25 by omega) (by decide), Option.bind_some, Option.bind_some, nI_1]
    have R1 : RM S I (upA A 13 k (nI (sg S b k))) := RM_IA R (fun _ _ => rfl) (fun q hq => upA_ne (by omega))
    obtain ⟨A', e, g1, g2⟩ := sign_12 w hb q m (k + 1) I _ R1 h1 (fun j hj => by
      rw [upA_self]
      by_cases z : j = k
      · rw [z, upd_self]
      · rw [upd_ne z]; exact h2 j (by omega)) (by omega) (by omega)
    exact ⟨A', e, g1, fun q hq => (g2 q hq).trans (upA_ne hq)⟩
theorem signs_t {I : Nat → Int32} {A : Nat → Nat → Int32} (w : WF S) (R : RM S I A) {b : Nat} (hb : b < nb S) : ∃ A', F_X9_takeSigns 88 (nI b) (md X I A Y) = some (md X (upd I 14 (nI (ln S b))) A' Y) ∧ RM S (upd I 14 (nI (ln S b))) A' ∧ MN (upd I 14 (nI (ln S b))) A' (ln S b) (sg S b) ∧ ∀ q, q ≠ 13 → A' q = A q := by
  have hl := w.2.2.1.2 b hb
  have R1 : RM S (upd I 14 (nI (ln S b))) A := RM_IA R (fun k hk => upd_ne (by omega)) (fun _ _ => rfl)
  obtain ⟨A', e, g1, g2⟩ := sign_12 (X := X) (Y := Y) w hb am_F (ln S b) 0 _ A R1 upd_self (fun j hj => by omega) (by omega) (by show _ < 100000; omega)
  refine ⟨A', ?_, RM_IA R1 (fun _ _ => rfl) (fun q hq => g2 q (by omega)), ⟨upd_self, g1⟩, g2⟩
  unfold F_X9_takeSigns F_X9_takeSigns_b
  rw [md_obj, Option.bind_some, md_gr3, Option.bind_some, A3 w R hb, Option.bind_some, md_pi14, Option.bind_some]
  exact e
theorem isFull_t {I : Nat → Int32} {A : Nat → Nat → Int32} (w : WF S) (R : RM S I A) {k : Nat} (hk : k ≤ 10) : F_X9_isFull 88 (nI k) (md X I A Y) = some (bI (decide (¬ (nv S < 30 ∧ nb S + k ≤ 200)))) := by
  have h1 := w.2.2.2.1
  have h2 := w.2.2.1.1
  unfold F_X9_isFull F_X9_isFull_b F_X9_isFull_21 F_X9_isFull_26
  rw [md_obj, Option.bind_some, md_gi6, Option.bind_some, R.2.2.2.1]
  by_cases c1 : nv S = 30
  · rw [if_pos (by rw [c1]; rfl), decide_eq_true (show ¬ (nv S < 30 ∧ nb S + k ≤ 200) by omega)]; rfl
  · rw [if_neg (show ¬ nI (nv S) = (30 : Int32) from fun z => c1 ((nI_eq (b := 30) (by omega) (by decide)).mp z)), md_gi2, Option.bind_some, R.2.2.1.1, nI_add]
    by_cases c2 : nb S + k ≤ 200
    · rw [if_pos (show nI (nb S + k) ≤ (200 : Int32) from nI_le (b := 200) c2 (by decide)), decide_eq_false (show ¬ ¬ (nv S < 30 ∧ nb S + k ≤ 200) from fun z => z ⟨by omega, c2⟩)]; rfl
    · rw [if_neg (show ¬ nI (nb S + k) ≤ (200 : Int32) from nI_ge (a := 200) (by omega) (by omega)), decide_eq_true (show ¬ (nv S < 30 ∧ nb S + k ≤ 200) by omega)]; rfl
theorem begin_t {I : Nat → Int32} {A : Nat → Nat → Int32} (R : RM S I A) : F_X9_begin 88 (md X I A Y) = some (md X (upd (upd I 16 (nI 0)) 17 (nI 0)) A Y) ∧ RM S (upd (upd I 16 (nI 0)) 17 (nI 0)) A ∧ ∀ f, MP (upd (upd I 16 (nI 0)) 17 (nI 0)) A 0 f 0 := by
  refine ⟨?_, RM_IA R (fun k hk => (upd_ne (by omega)).trans (upd_ne (by omega))) (fun _ _ => rfl), fun f => ⟨(upd_ne (by decide)).trans upd_self, upd_self, fun j hj => by omega⟩⟩
  unfold F_X9_begin F_X9_begin_b
  rw [md_obj, Option.bind_some, show (0 : Int32) = nI 0 from rfl, md_pi16, Option.bind_some, md_pi17, Option.bind_some]
end NM
section HR
variable {Z : sZ} {S : sS} {pb pv : Nat → Nat} {h : am_H}
theorem hasRoom_t (w : WF S) (C : RX Z S pb pv h) {k : Nat} (hk : k ≤ 10) : F_X8_hasRoom 1 (nI k) h = some (bI (decide (nv S < 30 ∧ nb S + k ≤ 200))) := by
  have h1 := w.2.2.2.1
  have h2 := w.2.2.1.1
  unfold F_X8_hasRoom F_X8_hasRoom_b F_X8_hasRoom_25 F_X8_hasRoom_26
  rw [C.ob, C.gi5, Option.bind_some]
  by_cases c1 : 30 ≤ nv S
  · rw [if_pos (show (30 : Int32) ≤ nI (nv S) from nI_le (a := 30) c1 (by omega)), decide_eq_false (show ¬ (nv S < 30 ∧ nb S + k ≤ 200) by omega)]; rfl
  · rw [if_neg (show ¬ (30 : Int32) ≤ nI (nv S) from nI_ge (b := 30) (by omega) (by decide)), C.gi3, Option.bind_some, nI_add]
    by_cases c2 : nb S + k ≤ 200
    · rw [if_neg (show ¬ (200 : Int32) < nI (nb S + k) from nI_nlt (a := 200) c2 (by decide)), decide_eq_true (show nv S < 30 ∧ nb S + k ≤ 200 from ⟨by omega, c2⟩)]; rfl
    · rw [if_pos (show (200 : Int32) < nI (nb S + k) from nI_lt (a := 200) (by omega) (by omega)), decide_eq_false (show ¬ (nv S < 30 ∧ nb S + k ≤ 200) by omega)]; rfl
theorem startPlan_t (C : RX Z S pb pv h) : ∃ h', F_X8_startPlan 1 h = some h' ∧ (∀ f, XP Z S pb pv h' 0 f 0) ∧ Fr (fun q => q = 1 ∨ q = 8) h h' := by
  obtain ⟨n, f, r⟩ := C.2.2.2.2.2.2.2.1.1
  obtain ⟨pn, o⟩ := C.1
  obtain ⟨h1, e1, r1, F1⟩ := row_empty r
  have o1 := (obj_at (c := 8) (F1.2.2 1 (by omega))).trans o
  obtain ⟨h2, e2, o2, F2⟩ := ob_set (k := 7) o1 (by show 7 < 16; omega) (nI 0)
  have o2' : am_obj 1 8 h2 = some (xfs S (nI 0)) := o2
  have F12 : Fr (fun q => q = 1 ∨ q = 8) h h2 := F1.tr F2 (fun q z => Or.inr z) (fun q z => Or.inl z)
  have C1 : RX Z S pb pv h1 := C.scr F1 (fun q z => by omega) (C.2.2.2.2.2.2.2.1.p (F1.mono (fun q z => by omega)) ⟨_, _, r1⟩)
  have K := C1.2.1
  obtain ⟨f2, c2, d2⟩ := C1.2.1
  obtain ⟨f3, c3, d3⟩ := C1.2.2.1
  obtain ⟨-, -, -, ⟨f4, c4, d4⟩, ⟨f5, c5, d5⟩, c6, c7, c8, c9, c10⟩ := C1
  have C2 : RX Z S pb pv h2 := ⟨⟨_, o2'⟩, ⟨f2, c2.fr F2 (by omega) (by omega), d2⟩, ⟨f3, c3.fr F2 (by omega) (by omega), d3⟩, ⟨f4, (ra_at (F2.2.2 _ (by omega))).trans c4, d4⟩, ⟨f5, (ra_at (F2.2.2 _ (by omega))).trans c5, d5⟩, fun b hb => (c6 b hb).fr F2 (fun q h1 h2 => by unfold rD at h1; omega), fun v hv => (c7 v hv).fr F2 (fun q h1 h2 => by unfold rD at h1; omega), c8.fr F2 (fun q h1 h2 => by omega), c9, F2.1.trans c10⟩
  refine ⟨h2, ?_, fun f' => ⟨C2, o2', f, r1.fr F2 (by omega) (by omega), fun j hj => by omega⟩, F12⟩
  unfold F_X8_startPlan F_X8_startPlan_b
  rw [C.ob, C.gr (k := 6) (x := 8) (fun _ => rfl), Option.bind_some, e1, Option.bind_some, show (0 : Int32) = nI 0 from rfl, e2, Option.bind_some]
end HR
