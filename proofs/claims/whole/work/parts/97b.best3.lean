/-! THE BEST: the reference's side -/
theorem sub_nn {a b : Nat} (ha : a < 2 ^ 30) (hb : b < 2 ^ 30) : 0 ≤ nI a - nI b ↔ b ≤ a := by
  rw [Int32.le_iff_toInt_le, sub_toInt ha hb, Int32.toInt_zero]
  omega
theorem at_t {i t : Nat} (h : am_H) : F_X9_at (nI i) (nI t) h = some (nI (1201 * i + t)) := by
  unfold F_X9_at F_X9_at_b
  rw [show (1201 : Int32) = nI 1201 from rfl, nI_mulN, nI_add]
def bZ (S : sS) (v i k : Nat) : Nat × Nat := Zf (ln S (rw_ S v i)) (sg S (rw_ S v i)) k
abbrev bSz (S : sS) (v : Nat) : Nat → Nat → Nat := fun i k => (bZ S v i k).1
abbrev bTm (S : sS) (v : Nat) : Nat → Nat → Nat := fun i k => (bZ S v i k).2
theorem bZ_le {S : sS} (w : WF S) {v i : Nat} (hv : v < nv S) (hi : i < rl S v) (k : Nat) : (bZ S v i k).1 ≤ 2000 ∧ (bZ S v i k).2 ≤ 144 := by
  have hb := (w.2.2.2.2 v hv).1.2 i hi
  have hl := w.2.2.1.2 _ hb
  exact Zf_le hl.2 hl.1.2 k
def RH (S : sS) (v : Nat) (A : Nat → Nat → Int32) : Prop := ∀ i, i < rl S v → ∀ k, k < 5 → A 37 (5 * i + k) = nI (bSz S v i k) ∧ A 38 (5 * i + k) = nI (bTm S v i k)
section BM
variable {X : Fin 87 → am_C} {Y : am_H} {S : sS}
theorem fb_17 {K : Nat → Int32 → Int32 → Int32 → am_H → Option am_H} (w : WF S) {v i : Nat} {N : Int32} (hv : v < nv S) (hi : i < rl S v) : ∀ (q m k : Nat) (I : Nat → Int32) (A : Nat → Nat → Int32), RM S I A → k + m = 5 → m < q → (∀ j, j < i → ∀ k, k < 5 → A 37 (5 * j + k) = nI (bSz S v j k) ∧ A 38 (5 * j + k) = nI (bTm S v j k)) → (∀ j, j < k → A 37 (5 * i + j) = nI (bSz S v i j) ∧ A 38 (5 * i + j) = nI (bTm S v i j)) →
    ∃ I' A', F_X9_findBest_17 K q 88 (nI v) N (nI i) (nI k) (md X I A Y) = K 88 (nI v) N (nI (i + 1)) (md X I' A' Y) ∧ RM S I' A' ∧ (∀ j, j < i + 1 → ∀ k, k < 5 → A' 37 (5 * j + k) = nI (bSz S v j k) ∧ A' 38 (5 * j + k) = nI (bTm S v j k))
  | 0, m, k, I, A, R, h1, h2, h3, h4 => by omega
  | q + 1, 0, k, I, A, R, h1, h2, h3, h4 => by
    rw [F_X9_findBest_17, if_pos (show (5 : Int32) ≤ nI k from nI_le (a := 5) (by omega) (by omega)), nI_1]
    refine ⟨I, A, rfl, R, fun j hj k' hk' => ?_⟩
    by_cases z : j = i
    · rw [z]; exact h4 k' (by omega)
    · exact h3 j (by omega) k' hk'
  | q + 1, m + 1, k, I, A, R, h1, h2, h3, h4 => by
    have hv30 : v < 30 := Nat.lt_of_lt_of_le hv w.2.2.2.1
    have hw := (w.2.2.2.2 v hv).1
    have hb := hw.2 i hi
    obtain ⟨I1, A1, e1, R1, c1⟩ := sizeBy_t (X := X) (Y := Y) w R hb (show k < 5 by omega)
    have R1' : RM S I1 (upA A1 37 (5 * i + k) (nI (Zf (ln S (rw_ S v i)) (sg S (rw_ S v i)) k).1)) := RM_IA R1 (fun _ _ => rfl) (fun q hq => upA_ne (by omega))
    obtain ⟨I2, A2, e2, R2, c2⟩ := timeBy_t (X := X) (Y := Y) w R1' hb (show k < 5 by omega)
    have R2' : RM S I2 (upA A2 38 (5 * i + k) (nI (Zf (ln S (rw_ S v i)) (sg S (rw_ S v i)) k).2)) := RM_IA R2 (fun _ _ => rfl) (fun q hq => upA_ne (by omega))
    have f37 : upA A2 38 (5 * i + k) (nI (Zf (ln S (rw_ S v i)) (sg S (rw_ S v i)) k).2) 37 = upd (A 37) (5 * i + k) (nI (bSz S v i k)) := by rw [upA_ne (by decide), c2 37 (by decide) (by decide), upA_self, c1 37 (by decide) (by decide)]; rfl
    have f38 : upA A2 38 (5 * i + k) (nI (Zf (ln S (rw_ S v i)) (sg S (rw_ S v i)) k).2) 38 = upd (A 38) (5 * i + k) (nI (bTm S v i k)) := by rw [upA_self, c2 38 (by decide) (by decide), upA_ne (by decide), c1 38 (by decide) (by decide)]; rfl
    obtain ⟨I', A', e, R', g⟩ := fb_17 (K := K) (N := N) w hv hi q m (k + 1) I2 _ R2' (by omega) (by omega) (fun j hj k' hk' => by
      rw [f37, f38, upd_ne (by omega), upd_ne (by omega)]; exact h3 j hj k' hk') (fun j hj => by
      rw [f37, f38]
      by_cases z : j = k
      · rw [z, upd_self, upd_self]; exact ⟨rfl, rfl⟩
      · rw [upd_ne (by omega), upd_ne (by omega)]; exact h4 j (by omega))
    refine ⟨I', A', ?_, R', g⟩
    rw [F_X9_findBest_17, if_neg (show ¬ (5 : Int32) ≤ nI k from nI_ge (b := 5) (by omega) (by decide)), md_gr37, Option.bind_some, blockAt_spec (show 8 * v + i < 240 by omega), Option.bind_some, (R.2.2.2.2 v hv).2.1 i hi, e1, Option.bind_some]
    show (am_is 0 112 ((5 : Int32) * nI i + nI k) (nI _) (md X I1 A1 Y)).bind _ = _
    rw [show (5 : Int32) = nI 5 from rfl, nI_mulN, nI_add, md_is37, ix_nI (show 5 * i + k < 40 by omega) (by decide), Option.bind_some, Option.bind_some, md_gr38, Option.bind_some, blockAt_spec (show 8 * v + i < 240 by omega), Option.bind_some, (R1'.2.2.2.2 v hv).2.1 i hi, e2, Option.bind_some]
    show (am_is 0 113 (nI (5 * i + k)) (nI _) (md X I2 A2 Y)).bind _ = _
    rw [md_is38, ix_nI (show 5 * i + k < 40 by omega) (by decide), Option.bind_some, Option.bind_some, nI_1]
    exact e
theorem fb_9 (w : WF S) {v : Nat} (hv : v < nv S) : ∀ (q m i : Nat) (I : Nat → Int32) (A : Nat → Nat → Int32), RM S I A → i + m = rl S v → m < q → (∀ j, j < i → ∀ k, k < 5 → A 37 (5 * j + k) = nI (bSz S v j k) ∧ A 38 (5 * j + k) = nI (bTm S v j k)) →
    ∃ I' A', F_X9_findBest_9 q 88 (nI v) (nI (rl S v)) (nI i) (md X I A Y) = F_X9_findBest_83 am_F 88 (nI (rl S v)) (nI 0) (md X I' A' Y) ∧ RM S I' A' ∧ RH S v A'
  | 0, m, i, I, A, R, h1, h2, h3 => by omega
  | q + 1, 0, i, I, A, R, h1, h2, h3 => by
    have hw := (w.2.2.2.2 v hv).1
    rw [F_X9_findBest_9, if_pos (nI_le (by omega) (by omega))]
    exact ⟨I, A, rfl, R, fun j hj => h3 j (by omega)⟩
  | q + 1, m + 1, i, I, A, R, h1, h2, h3 => by
    have hw := (w.2.2.2.2 v hv).1
    rw [F_X9_findBest_9, if_neg (nI_ge (by omega) (by omega))]
    obtain ⟨I1, A1, e1, R1, g1⟩ := fb_17 (X := X) (Y := Y) (K := F_X9_findBest_9 q) (N := nI (rl S v)) w hv (show i < rl S v by omega) am_F 5 0 I A R (by omega) (by show _ < 100000; omega) h3 (fun j hj => by omega)
    obtain ⟨I', A', e, R', g⟩ := fb_9 w hv q m (i + 1) I1 A1 R1 (by omega) (by omega) g1
    exact ⟨I', A', e1.trans e, R', g⟩
theorem fb_83 {I : Nat → Int32} {n : Nat} (hn : n ≤ 8) : ∀ (q m t : Nat) (A : Nat → Nat → Int32), t + m = 1201 → m < q → (∀ u, u < t → A 36 (1201 * n + u) = nI 0) →
    ∃ A', F_X9_findBest_83 q 88 (nI n) (nI t) (md X I A Y) = F_X9_findBest_111 am_F 88 (nI n - 1) (md X I A' Y) ∧ (∀ u, u ≤ 1200 → A' 36 (1201 * n + u) = nI 0) ∧ ∀ q, q ≠ 36 → A' q = A q
  | 0, m, t, A, h1, h2, h3 => by omega
  | q + 1, 0, t, A, h1, h2, h3 => by
    rw [F_X9_findBest_83, if_pos (show (1200 : Int32) < nI t from nI_lt (a := 1200) (by omega) (by omega))]
    exact ⟨A, rfl, fun u hu => h3 u (by omega), fun _ _ => rfl⟩
  | q + 1, m + 1, t, A, h1, h2, h3 => by
    rw [F_X9_findBest_83, if_neg (show ¬ (1200 : Int32) < nI t from nI_nlt (a := 1200) (by omega) (by decide)), md_gr36, Option.bind_some, at_t, Option.bind_some, show (0 : Int32) = nI 0 from rfl, md_is36, ix_nI (show 1201 * n + t < 10809 by omega) (by decide), Option.bind_some, Option.bind_some, nI_1]
    obtain ⟨A', e, g1, g2⟩ := fb_83 (I := I) hn q m (t + 1) (upA A 36 (1201 * n + t) (nI 0)) (by omega) (by omega) (fun u hu => by
      rw [upA_self]
      by_cases z : u = t
      · rw [z, upd_self]
      · rw [upd_ne (by omega)]; exact h3 u (by omega))
    exact ⟨A', e, g1, fun q hq => (g2 q hq).trans (upA_ne hq)⟩
variable {v : Nat}
abbrev bB (S : sS) (v : Nat) : Nat → Nat → Nat := bs (rl S v) (bSz S v) (bTm S v)
theorem fb_134 {K111 : Nat → Int32 → am_H → Option am_H} {K118 : Nat → Int32 → Int32 → am_H → Option am_H} {I : Nat → Int32} {A : Nat → Nat → Int32} (w : WF S) (hv : v < nv S) (H : RH S v A) {i t : Nat} (hi : i < rl S v) (ht : t ≤ 1200) (hT : ∀ u, u ≤ 1200 → A 36 (1201 * (i + 1) + u) = nI (bB S v (i + 1) u)) : ∀ (q m k : Nat), k + m = 5 → m < q →
    F_X9_findBest_134 K111 K118 q 88 (nI i) (nI t) (nI (bsK (bSz S v) (bTm S v) (bB S v (i + 1)) i t k)) (nI k) (md X I A Y) = K118 88 (nI i) (nI (t + 1)) (md X I (upA A 36 (1201 * i + t) (nI (bB S v i t))) Y)
  | 0, m, k, h1, h2 => by omega
  | q + 1, 0, k, h1, h2 => by
    have hw := (w.2.2.2.2 v hv).1
    have e5 : k = 5 := by omega
    subst e5
    rw [F_X9_findBest_134, if_pos (show (5 : Int32) ≤ nI 5 from nI_le (a := 5) (by omega) (by omega)), md_gr36, Option.bind_some, at_t, Option.bind_some, md_is36, ix_nI (show 1201 * i + t < 10809 by omega) (by decide), Option.bind_some, Option.bind_some, nI_1, ← bs_step hi]
  | q + 1, m + 1, k, h1, h2 => by
    have hw := (w.2.2.2.2 v hv).1
    have ih := fb_134 (K111 := K111) (K118 := K118) (I := I) w hv H hi ht hT q m (k + 1) (by omega) (by omega)
    obtain ⟨z1, z2⟩ := bZ_le w hv hi k
    have z1 : bSz S v i k ≤ 2000 := z1
    have z2 : bTm S v i k ≤ 144 := z2
    obtain ⟨a1, a2⟩ := H i hi k (by omega)
    have hb := (bsK_le (sz := bSz S v) (tm := bTm S v) (bB S v (i + 1)) i t k).1
    have hb2 : bB S v (i + 1) (t - bTm S v i k) ≤ 1000000 := bs_le (n := rl S v) (sz := bSz S v) (tm := bTm S v) (i + 1) (t - bTm S v i k) (by omega)
    have e : bsK (bSz S v) (bTm S v) (bB S v (i + 1)) i t (k + 1) = if swF (bSz S v) (bTm S v) (bB S v (i + 1)) i k t < bsK (bSz S v) (bTm S v) (bB S v (i + 1)) i t k then swF (bSz S v) (bTm S v) (bB S v (i + 1)) i k t else bsK (bSz S v) (bTm S v) (bB S v (i + 1)) i t k := rfl
    have k192 : ∀ s, s ≤ 1002000 → swF (bSz S v) (bTm S v) (bB S v (i + 1)) i k t = s → F_X9_findBest_192 K111 K118 (F_X9_findBest_134 K111 K118 q) 88 (nI i) (nI t) (nI (bsK (bSz S v) (bTm S v) (bB S v (i + 1)) i t k)) (nI k) (nI s) (md X I A Y) = K118 88 (nI i) (nI (t + 1)) (md X I (upA A 36 (1201 * i + t) (nI (bB S v i t))) Y) := fun s hs es => by
      unfold F_X9_findBest_192 F_X9_findBest_208
      rw [nI_1]
      rw [es] at e
      by_cases c : s < bsK (bSz S v) (bTm S v) (bB S v (i + 1)) i t k
      · rw [if_pos c] at e
        rw [e] at ih
        rw [if_neg (nI_ge c (by omega))]
        exact ih
      · rw [if_neg c] at e
        rw [e] at ih
        rw [if_pos (nI_le (by omega) (by omega))]
        exact ih
    rw [F_X9_findBest_134, if_neg (show ¬ (5 : Int32) ≤ nI k from nI_ge (b := 5) (by omega) (by decide)), md_gr38, Option.bind_some, show (5 : Int32) = nI 5 from rfl, nI_mulN, nI_add, md_il38, ix_nI (show 5 * i + k < 40 by omega) (by decide), Option.bind_some, Option.bind_some, a2]
    by_cases c : t < bTm S v i k
    · rw [if_neg (fun z => by have := (sub_nn (by omega) (by omega)).mp z; omega)]
      exact k192 1000000 (by omega) (by unfold swF; rw [if_pos c])
    · rw [if_pos ((sub_nn (by omega) (by omega)).mpr (by omega)), md_gr37, Option.bind_some, md_il37, ix_nI (show 5 * i + k < 40 by omega) (by decide), Option.bind_some, Option.bind_some, a1, md_gr36, Option.bind_some, nI_1, nI_subN (by omega), at_t, Option.bind_some, md_il36, ix_nI (show 1201 * (i + 1) + (t - bTm S v i k) < 10809 by omega) (by decide), Option.bind_some, Option.bind_some, hT _ (by omega), nI_add]
      exact k192 _ (by omega) (by unfold swF; rw [if_neg c])
theorem RH.up {A : Nat → Nat → Int32} (H : RH S v A) {j : Nat} {x : Int32} : RH S v (upA A 36 j x) := fun i hi k hk => by
  rw [upA_ne (by decide), upA_ne (by decide)]
  exact H i hi k hk
theorem fb_118 {K111 : Nat → Int32 → am_H → Option am_H} {I : Nat → Int32} (w : WF S) (hv : v < nv S) {i : Nat} (hi : i < rl S v) : ∀ (q m t : Nat) (A : Nat → Nat → Int32), RH S v A → t + m = 1201 → m < q → (∀ u, u ≤ 1200 → A 36 (1201 * (i + 1) + u) = nI (bB S v (i + 1) u)) → (∀ u, u < t → A 36 (1201 * i + u) = nI (bB S v i u)) →
    ∃ A', F_X9_findBest_118 K111 q 88 (nI i) (nI t) (md X I A Y) = K111 88 (nI i - 1) (md X I A' Y) ∧ RH S v A' ∧ (∀ u, u ≤ 1200 → A' 36 (1201 * i + u) = nI (bB S v i u)) ∧ (∀ x, ¬ (1201 * i ≤ x ∧ x < 1201 * i + 1201) → A' 36 x = A 36 x) ∧ ∀ q, q ≠ 36 → A' q = A q
  | 0, m, t, A, H, h1, h2, h3, h4 => by omega
  | q + 1, 0, t, A, H, h1, h2, h3, h4 => by
    rw [F_X9_findBest_118, if_pos (show (1200 : Int32) < nI t from nI_lt (a := 1200) (by omega) (by omega)), dn_nI]
    exact ⟨A, rfl, H, fun u hu => h4 u (by omega), fun _ _ => rfl, fun _ _ => rfl⟩
  | q + 1, m + 1, t, A, H, h1, h2, h3, h4 => by
    rw [F_X9_findBest_118, if_neg (show ¬ (1200 : Int32) < nI t from nI_nlt (a := 1200) (by omega) (by decide))]
    obtain ⟨A', e, H', g1, g2, g3⟩ := fb_118 (K111 := K111) (I := I) w hv hi q m (t + 1) (upA A 36 (1201 * i + t) (nI (bB S v i t))) H.up (by omega) (by omega) (fun u hu => by rw [upA_self, upd_ne (by omega)]; exact h3 u hu) (fun u hu => by
      rw [upA_self]
      by_cases z : u = t
      · rw [z, upd_self]
      · rw [upd_ne (by omega)]; exact h4 u (by omega))
    exact ⟨A', (fb_134 (K111 := K111) (K118 := F_X9_findBest_118 K111 q) w hv H hi (show t ≤ 1200 by omega) h3 am_F 5 0 (by omega) (by show _ < 100000; omega)).trans e, H', g1, fun x hx => by rw [g2 x hx, upA_self, upd_ne (by omega)], fun q hq => (g3 q hq).trans (upA_ne hq)⟩
theorem fb_111 {I : Nat → Int32} (w : WF S) (hv : v < nv S) : ∀ (q i : Nat) (A : Nat → Nat → Int32), RH S v A → i ≤ rl S v → i < q → (∀ j, i ≤ j → j ≤ rl S v → ∀ u, u ≤ 1200 → A 36 (1201 * j + u) = nI (bB S v j u)) →
    ∃ A', F_X9_findBest_111 q 88 (nI i - 1) (md X I A Y) = some (md X I A' Y) ∧ RH S v A' ∧ (∀ j, j ≤ rl S v → ∀ u, u ≤ 1200 → A' 36 (1201 * j + u) = nI (bB S v j u)) ∧ ∀ q, q ≠ 36 → A' q = A q
  | 0, i, A, H, h1, h2, h3 => by omega
  | q + 1, 0, A, H, h1, h2, h3 => by
    rw [F_X9_findBest_111, if_pos m1_lt]
    exact ⟨A, rfl, H, fun j hj => h3 j (by omega) hj, fun _ _ => rfl⟩
  | q + 1, i + 1, A, H, h1, h2, h3 => by
    have hw := (w.2.2.2.2 v hv).1
    rw [F_X9_findBest_111, pre_nI, if_neg (nI_pos (by omega))]
    obtain ⟨A1, e1, H1, g1, g2, g3⟩ := fb_118 (X := X) (Y := Y) (K111 := F_X9_findBest_111 q) (I := I) w hv (show i < rl S v by omega) am_F 1201 0 A H (by omega) (by show _ < 100000; omega) (h3 (i + 1) (by omega) (by omega)) (fun u hu => by omega)
    obtain ⟨A', e, H', k1, k2⟩ := fb_111 (I := I) w hv q i A1 H1 (by omega) (by omega) (fun j j1 j2 u hu => by
      by_cases z : j = i
      · rw [z]; exact g1 u hu
      · rw [g2 _ (by omega)]; exact h3 j (by omega) j2 u hu)
    exact ⟨A', e1.trans e, H', k1, fun q hq => (k2 q hq).trans (g3 q hq)⟩
theorem findBest_t {I : Nat → Int32} {A : Nat → Nat → Int32} (w : WF S) (R : RM S I A) (hv : v < nv S) : ∃ I' A', F_X9_findBest 88 (nI v) (md X I A Y) = some (md X I' A' Y) ∧ RM S I' A' ∧ RH S v A' ∧ (∀ j, j ≤ rl S v → ∀ u, u ≤ 1200 → A' 36 (1201 * j + u) = nI (bB S v j u)) := by
  have hv30 : v < 30 := Nat.lt_of_lt_of_le hv w.2.2.2.1
  have hw := (w.2.2.2.2 v hv).1
  obtain ⟨I1, A1, e1, R1, H1⟩ := fb_9 (X := X) (Y := Y) w hv am_F (rl S v) 0 I A R (by omega) (by show _ < 100000; omega) (fun j hj => by omega)
  obtain ⟨A2, e2, g2, k2⟩ := fb_83 (X := X) (Y := Y) (I := I1) hw.1 am_F 1201 0 A1 (by omega) (by show _ < 100000; omega) (fun u hu => by omega)
  have R2 : RM S I1 A2 := RM_IA R1 (fun _ _ => rfl) (fun q hq => k2 q (by omega))
  have H2 : RH S v A2 := fun i hi k hk => by rw [k2 37 (by decide), k2 38 (by decide)]; exact H1 i hi k hk
  obtain ⟨A3, e3, H3, g3, k3⟩ := fb_111 (X := X) (Y := Y) (I := I1) w hv am_F (rl S v) A2 H2 (Nat.le_refl _) (by show _ < 100000; omega) (fun j j1 j2 u hu => by
    rw [show j = rl S v by omega, g2 u hu]
    show _ = nI (bs (rl S v) (bSz S v) (bTm S v) (rl S v) u)
    rw [bs_end])
  refine ⟨I1, A3, ?_, RM_IA R2 (fun _ _ => rfl) (fun q hq => k3 q (by omega)), H3, g3⟩
  unfold F_X9_findBest F_X9_findBest_b
  rw [md_obj, Option.bind_some, md_gr7, Option.bind_some, md_il7, ix_nI hv30 (by decide), Option.bind_some, Option.bind_some, (R.2.2.2.2 v hv).1]
  exact e1.trans (e2.trans e3)
/-! the reference tells -/
abbrev bK (S : sS) (v : Nat) : Nat → Nat → Nat := kd (rl S v) (bSz S v) (bTm S v)
abbrev bL (S : sS) (v : Nat) : Nat → Nat → Nat := lf (rl S v) (bSz S v) (bTm S v)
abbrev bM (S : sS) (v : Nat) : Nat → Nat → Nat := tmS (rl S v) (bSz S v) (bTm S v)
theorem bt_124 {K : Nat → Int32 → Int32 → Int32 → Int32 → Int32 → Int32 → am_H → Option (Int32 × am_H)} {I : Nat → Int32} {A : Nat → Nat → Int32} (w : WF S) (hv : v < nv S) (H : RH S v A) (hT : ∀ j, j ≤ rl S v → ∀ u, u ≤ 1200 → A 36 (1201 * j + u) = nI (bB S v j u)) {j t c : Nat} {V vi kk : Int32} (hj : j < rl S v) (ht : t ≤ 1200) (hok : bB S v j t < 1000000) : ∀ (q m k : Nat), k + m = bK S v j t → m < q →
    F_X9_best_124 K q 88 V vi (nI t) (nI c) kk (nI j) (nI k) (md X I A Y) = K 88 V vi (nI (t - bTm S v j (bK S v j t))) (nI (c + bTm S v j (bK S v j t))) (if nI j = vi then nI (bK S v j t) else kk) (nI (j + 1)) (md X I A Y)
  | 0, m, k, h1, h2 => by omega
  | q + 1, m, k, h1, h2 => by
    have hw := (w.2.2.2.2 v hv).1
    obtain ⟨k1, k2, k3⟩ := kd_spec hj hok
    have k1 : bK S v j t ≤ 4 := k1
    obtain ⟨f1, f2⟩ := kd_fit hj hok
    obtain ⟨z1, z2⟩ := bZ_le w hv hj k
    have z1 : bSz S v j k ≤ 2000 := z1
    have z2 : bTm S v j k ≤ 144 := z2
    obtain ⟨a1, a2⟩ := H j hj k (by omega)
    have hb2 : bB S v (j + 1) (t - bTm S v j k) ≤ 1000000 := bs_le (n := rl S v) (sz := bSz S v) (tm := bTm S v) (j + 1) (t - bTm S v j k) (by omega)
    have hb3 := bs_le (n := rl S v) (sz := bSz S v) (tm := bTm S v) j t (by omega)
    have step : k ≠ bK S v j t → F_X9_best_196 K (F_X9_best_124 K q) 88 V vi (nI t) (nI c) kk (nI j) (nI k) (md X I A Y) = K 88 V vi (nI (t - bTm S v j (bK S v j t))) (nI (c + bTm S v j (bK S v j t))) (if nI j = vi then nI (bK S v j t) else kk) (nI (j + 1)) (md X I A Y) := fun hne => by
      unfold F_X9_best_196
      rw [nI_1]
      exact bt_124 w hv H hT hj ht hok q (m - 1) (k + 1) (by omega) (by omega)
    rw [F_X9_best_124, md_gr38, Option.bind_some, show (5 : Int32) = nI 5 from rfl, nI_mulN, nI_add, md_il38, ix_nI (show 5 * j + k < 40 by omega) (by decide), Option.bind_some, Option.bind_some, a2]
    by_cases c1 : t < bTm S v j k
    · rw [if_pos (nI_lt c1 (by omega))]
      refine step (fun z => ?_)
      have f1 : bTm S v j (bK S v j t) ≤ t := f1
      rw [← z] at f1
      omega
    · rw [if_neg (nI_nlt (by omega) (by omega)), md_gr37, Option.bind_some, md_il37, ix_nI (show 5 * j + k < 40 by omega) (by decide), Option.bind_some, Option.bind_some, a1, md_gr36, Option.bind_some, Option.bind_some, md_il38, ix_nI (show 5 * j + k < 40 by omega) (by decide), Option.bind_some, Option.bind_some, a2, nI_1, nI_subN (by omega), at_t, Option.bind_some, md_il36, ix_nI (show 1201 * (j + 1) + (t - bTm S v j k) < 10809 by omega) (by decide), Option.bind_some, Option.bind_some, hT (j + 1) (by omega) _ (by omega), Option.bind_some, at_t, Option.bind_some, md_il36, ix_nI (show 1201 * j + t < 10809 by omega) (by decide), Option.bind_some, Option.bind_some, hT j (by omega) t ht, nI_add]
      have esw : sw (rl S v) (bSz S v) (bTm S v) j k t = bSz S v j k + bB S v (j + 1) (t - bTm S v j k) := by unfold sw swF; rw [if_neg c1]
      by_cases c2 : bSz S v j k + bB S v (j + 1) (t - bTm S v j k) = bB S v j t
      · have ek : k = bK S v j t := by
          by_cases z : k < bK S v j t
          · exact absurd (esw.trans c2) (k3 k z)
          · omega
        rw [if_pos (by rw [c2]), Option.bind_some, md_il38, ix_nI (show 5 * j + k < 40 by omega) (by decide), Option.bind_some, Option.bind_some, a2, Option.bind_some, md_il38, ix_nI (show 5 * j + k < 40 by omega) (by decide), Option.bind_some, Option.bind_some, a2, nI_add]
        unfold F_X9_best_249
        rw [nI_1, nI_subN (show bTm S v j k ≤ t by omega), ek]
        split <;> rfl
      · rw [if_neg (fun z => c2 ((nI_eq (by omega) (by omega)).mp z))]
        refine step (fun z => ?_)
        have k2 : sw (rl S v) (bSz S v) (bTm S v) j (bK S v j t) t = bB S v j t := k2
        rw [← z, esw] at k2
        exact c2 k2
theorem bt_110 {I : Nat → Int32} {A : Nat → Nat → Int32} (w : WF S) (R : RM S I A) (hv : v < nv S) (H : RH S v A) (hT : ∀ j, j ≤ rl S v → ∀ u, u ≤ 1200 → A 36 (1201 * j + u) = nI (bB S v j u)) {u : Nat} {vi : Int32} (hu : u ≤ 1200) (hok : bB S v 0 u < 1000000) : ∀ (q m j : Nat), j + m = rl S v → m < q →
    F_X9_best_110 q 88 (nI v) vi (nI (bL S v u j)) (nI (bM S v u j)) (if vd j vi then nI (bK S v vi.toNatClampNeg (bL S v u vi.toNatClampNeg)) else -1) (nI j) (md X I A Y) = some (if vi = -2 then nI (bM S v u (rl S v)) else if vd (rl S v) vi then nI (bK S v vi.toNatClampNeg (bL S v u vi.toNatClampNeg)) else -1, md X I A Y)
  | 0, m, j, h1, h2 => by omega
  | q + 1, 0, j, h1, h2 => by
    have hv30 : v < 30 := Nat.lt_of_lt_of_le hv w.2.2.2.1
    have hw := (w.2.2.2.2 v hv).1
    have ej : j = rl S v := by omega
    subst ej
    rw [F_X9_best_110, md_gr7, Option.bind_some, md_il7, ix_nI hv30 (by decide), Option.bind_some, Option.bind_some, (R.2.2.2.2 v hv).1, if_pos (nI_le (Nat.le_refl _) (by omega))]
    unfold F_X9_best_270
    by_cases c : vi = -2
    · rw [if_pos c, if_pos c]
    · rw [if_neg c, if_neg c]
  | q + 1, m + 1, j, h1, h2 => by
    have hv30 : v < 30 := Nat.lt_of_lt_of_le hv w.2.2.2.1
    have hw := (w.2.2.2.2 v hv).1
    obtain ⟨o1, o2⟩ := lf_ok hok j (by omega)
    have o2 : bL S v u j + bM S v u j = u := o2
    have ih := bt_110 w R hv H hT (vi := vi) hu hok q m (j + 1) (by omega) (by omega)
    rw [F_X9_best_110, md_gr7, Option.bind_some, md_il7, ix_nI hv30 (by decide), Option.bind_some, Option.bind_some, (R.2.2.2.2 v hv).1, if_neg (nI_ge (by omega) (by omega)), show (0 : Int32) = nI 0 from rfl]
    refine (bt_124 (K := F_X9_best_110 q) w hv H hT (show j < rl S v by omega) (show bL S v u j ≤ 1200 by omega) o1 am_F (bK S v j (bL S v u j)) 0 (by omega) (by show _ < 100000; have := (kd_spec (show j < rl S v by omega) o1).1; have this : bK S v j (bL S v u j) ≤ 4 := this; omega)).trans ?_
    refine Eq.trans ?_ ih
    have ek : (if nI j = vi then nI (bK S v j (bL S v u j)) else (if vd j vi then nI (bK S v vi.toNatClampNeg (bL S v u vi.toNatClampNeg)) else -1)) = (if vd (j + 1) vi then nI (bK S v vi.toNatClampNeg (bL S v u vi.toNatClampNeg)) else -1) := by
      by_cases c : nI j = vi
      · rw [if_pos c, ← c, if_pos (vd_nI (by omega) (by omega)), cl_nI (by omega)]
      · rw [if_neg c]
        by_cases c2 : vd j vi
        · rw [if_pos c2, if_pos (show vd (j + 1) vi by unfold vd at c2 ⊢; omega)]
        · rw [if_neg c2, if_neg (fun z => by
            obtain ⟨y, hy, rfl⟩ := nI_of_toInt z.1 z.2
            by_cases e : y = j
            · exact c (by rw [e])
            · exact c2 (vd_nI (by omega) (by omega)))]
    rw [ek]
    rfl
end BM
