/-! TURNED: the reference's side -/
def ChT (I I' : Nat → Int32) (A A' : Nat → Nat → Int32) : Prop := (∀ k, k ≠ 35 → I' k = I k) ∧ ∀ k, k < 31 ∨ 34 < k → A' k = A k
theorem ChT.rf {I : Nat → Int32} {A : Nat → Nat → Int32} : ChT I I A A := ⟨fun _ _ => rfl, fun _ _ => rfl⟩
theorem ChT.tr {I I1 I2 : Nat → Int32} {A A1 A2 : Nat → Nat → Int32} (a : ChT I I1 A A1) (b : ChT I1 I2 A1 A2) : ChT I I2 A A2 := ⟨fun k h => (b.1 k h).trans (a.1 k h), fun k h => (b.2 k h).trans (a.2 k h)⟩
theorem ChT.rm {S : sS} {I I' : Nat → Int32} {A A' : Nat → Nat → Int32} (c : ChT I I' A A') (R : RM S I A) : RM S I' A' := RM_IA R (fun k hk => c.1 k (by omega)) (fun q hq => c.2 q (by omega))
theorem ChT.up {I : Nat → Int32} {A : Nat → Nat → Int32} {k j : Nat} {x : Int32} (hk : 31 ≤ k ∧ k ≤ 34) : ChT I I A (upA A k j x) := ⟨fun _ _ => rfl, fun q hq => upA_ne (by omega)⟩
theorem nI_nm1 {k : Nat} (h : k < 2 ^ 31) : ¬ nI k = -1 := fun z => by
  have h1 := congrArg Int32.toInt z
  rw [nI_toInt h] at h1
  have h2 : (-1 : Int32).toInt = -1 := by decide
  rw [h2] at h1
  omega
section TM
variable {X : Fin 87 → am_C} {Y : am_H} {S : sS}
theorem mod_nI {m d : Nat} (hd : 0 < d) (hm : m < 2 ^ 31) (hd2 : d < 2 ^ 31) : nI m - nI m / nI d * nI d = nI (m % d) := by
  have h1 := Nat.div_add_mod m d
  have h2 : m / d * d ≤ m := Nat.div_mul_le_self m d
  rw [nI_div hm hd2, nI_mulN, nI_subN h2]
  congr 1
  rw [Nat.mul_comm] at h1
  omega
theorem tsign_t {I : Nat → Int32} {A : Nat → Nat → Int32} (w : WF S) (R : RM S I A) {b f k : Nat} (hb : b < nb S) (hf : f ≤ 24) (hk : k ≤ 100) : F_X9_turnedSign 88 (nI b) (nI f) (nI k) (md X I A Y) = some (eI (sg S b) (ln S b) ((f + k) % (ln S b + 1))) := by
  have hl := w.2.2.1.2 b hb
  have hm : (f + k) % (ln S b + 1) < ln S b + 1 := Nat.mod_lt _ (by omega)
  unfold F_X9_turnedSign F_X9_turnedSign_b F_X9_turnedSign_36
  rw [md_obj, Option.bind_some, md_gr3, Option.bind_some, A3 w R hb, Option.bind_some, nI_1, if_neg (nI_ne0 (by omega) (by omega)), Option.bind_some, A3 w R hb, Option.bind_some, nI_add, mod_nI (by omega) (by omega) (by omega)]
  unfold eI
  by_cases c : (f + k) % (ln S b + 1) = ln S b
  · rw [if_pos (by rw [c]), if_neg (by omega)]
  · rw [if_neg (fun z => c ((nI_eq (by omega) (by omega)).mp z)), if_pos (by omega), A4 w R hb (by omega), Option.bind_some]
theorem before_loop {I : Nat → Int32} {A : Nat → Nat → Int32} (w : WF S) (R : RM S I A) {b x y : Nat} (hb : b < nb S) (hxy : x ≠ y) : ∀ (q k i : Nat), i + k = ln S b + 1 → k < q → x + i ≤ ln S b → y + i ≤ ln S b → F_X9_isBefore_3 q 88 (nI b) (nI x) (nI y) (nI i) (md X I A Y) = some (bI (ahd (sg S b) (ln S b) x y k i))
  | 0, k, i, h1, h2, h3, h4 => by omega
  | q + 1, 0, i, h1, h2, h3, h4 => by omega
  | q + 1, k + 1, i, h1, h2, h3, h4 => by
    have hl := w.2.2.1.2 b hb
    have hs := hl.2
    rw [F_X9_isBefore_3, tsign_t w R hb (by omega) (by omega), Option.bind_some, tsign_t w R hb (by omega) (by omega), Option.bind_some, Nat.mod_eq_of_lt (by omega), Nat.mod_eq_of_lt (by omega)]
    unfold ahd
    by_cases c : eN (sg S b) (ln S b) (x + i) = eN (sg S b) (ln S b) (y + i)
    · rw [if_pos ((eI_eq hs _ _).mpr c), if_pos c, nI_1]
      have hx : x + i < ln S b ∧ y + i < ln S b := by
        unfold eN at c
        by_cases z1 : x + i < ln S b
        · by_cases z2 : y + i < ln S b
          · exact ⟨z1, z2⟩
          · rw [if_pos z1, if_neg z2] at c; omega
        · by_cases z2 : y + i < ln S b
          · rw [if_neg z1, if_pos z2] at c; omega
          · omega
      exact before_loop w R hb hxy q k (i + 1) (by omega) (by omega) (by omega) (by omega)
    · rw [if_neg (fun z => c ((eI_eq hs _ _).mp z)), if_neg c, Option.bind_some, Option.bind_some]
      unfold F_X9_isBefore_52
      by_cases c2 : eN (sg S b) (ln S b) (y + i) ≤ eN (sg S b) (ln S b) (x + i)
      · rw [if_pos ((eI_le hs _ _).mpr c2), decide_eq_false (by omega)]
        rfl
      · rw [if_neg (fun z => c2 ((eI_le hs _ _).mp z)), decide_eq_true (by omega)]
        rfl
theorem before_t {I : Nat → Int32} {A : Nat → Nat → Int32} (w : WF S) (R : RM S I A) {b x y : Nat} (hb : b < nb S) (hxy : x ≠ y) (hx : x ≤ ln S b) (hy : y ≤ ln S b) : F_X9_isBefore 88 (nI b) (nI x) (nI y) (md X I A Y) = some (bI (ahd (sg S b) (ln S b) x y (ln S b + 1) 0)) := by
  have hl := w.2.2.1.2 b hb
  unfold F_X9_isBefore F_X9_isBefore_b
  rw [md_obj, Option.bind_some]
  exact before_loop w R hb hxy am_F (ln S b + 1) 0 (by omega) (by show _ < 100000; omega) (by omega) (by omega)
theorem mins_loop {K : Nat → Int32 → Int32 → Int32 → am_H → Option am_H} {I : Nat → Int32} (w : WF S) {b x : Nat} (hb : b < nb S) (hx : x ≤ ln S b) : ∀ (q k : Nat) (A : Nat → Nat → Int32) (t : Nat → Nat), RM S I A → k ≤ x → k < q → (∀ j, j ≤ x → j ≠ k → A 31 j = nI (t j) ∧ t j < x) →
    ∃ A', F_X9_findTurns_19 K q 88 (nI b) (nI (ln S b + 1)) (nI x) (nI k) (md X I A Y) = K 88 (nI b) (nI (ln S b + 1)) (nI (x + 1)) (md X I A' Y) ∧ ChT I I A A' ∧ (∀ j, j ≤ x → A' 31 j = nI (insF (sg S b) (ln S b) x k t j))
  | 0, k, A, t, R, h1, h2, h3 => by omega
  | q + 1, k, A, t, R, h1, h2, h3 => by
    have hl := w.2.2.1.2 b hb
    have fin : ∃ A', F_X9_findTurns_64 K 88 (nI b) (nI (ln S b + 1)) (nI x) (nI k) (md X I A Y) = K 88 (nI b) (nI (ln S b + 1)) (nI (x + 1)) (md X I A' Y) ∧ ChT I I A A' ∧ (∀ j, j ≤ x → A' 31 j = nI (updN t k x j)) := by
      refine ⟨upA A 31 k (nI x), ?_, ChT.up (by omega), fun j hj => ?_⟩
      · unfold F_X9_findTurns_64
        rw [md_gr31, Option.bind_some, md_is31, ix_nI (show k < 25 by omega) (by decide), Option.bind_some, Option.bind_some, nI_1]
      · rw [upA_self]
        by_cases z : j = k
        · rw [z, upd_self, updN_self]
        · rw [upd_ne z, updN_ne z, (h3 j hj z).1]
    rw [F_X9_findTurns_19]
    cases k with
    | zero =>
      rw [if_pos (show nI 0 ≤ 0 by decide)]
      exact fin
    | succ k =>
      have h4 := h3 k (by omega) (by omega)
      rw [if_neg (nI_nle (by omega) (by omega)), md_gr31, Option.bind_some, pre_nI, md_il31, ix_nI (show k < 25 by omega) (by decide), Option.bind_some, Option.bind_some, h4.1, before_t w R hb (by omega) hx (by omega), Option.bind_some]
      unfold insF
      cases hz : ahd (sg S b) (ln S b) x (t k) (ln S b + 1) 0 with
      | false =>
        rw [if_pos (show bI false = 0 from rfl), if_neg (show ¬ false = true by decide)]
        exact fin
      | true =>
        rw [if_neg (show ¬ bI true = 0 by decide), if_pos (rfl : true = true), Option.bind_some, Option.bind_some, md_il31, ix_nI (show k < 25 by omega) (by decide), Option.bind_some, Option.bind_some, h4.1, md_is31, ix_nI (show k + 1 < 25 by omega) (by decide), Option.bind_some, Option.bind_some, dn_nI, pre_nI]
        have c1 : ChT I I A (upA A 31 (k + 1) (nI (t k))) := ChT.up (by omega)
        obtain ⟨A', e, c, g⟩ := mins_loop (K := K) w hb hx q k _ (updN t (k + 1) (t k)) (c1.rm R) (by omega) (by omega) (fun j hj hjk => by
          rw [upA_self]
          by_cases z : j = k + 1
          · rw [z, upd_self, updN_self]; exact ⟨rfl, h4.2⟩
          · rw [upd_ne z, updN_ne z]; exact h3 j hj z)
        exact ⟨A', e, c1.tr c, g⟩
theorem mshift_loop {K : Nat → Int32 → Int32 → Int32 → Int32 → am_H → Option am_H} {I : Nat → Int32} {b n m i : Int32} {x : Nat} : ∀ (q p : Nat) (A : Nat → Nat → Int32) (t : Nat → Nat), p < 16 → p < q → (∀ j, j < 16 → A 34 j = nI (t j)) →
    ∃ A', F_X9_findTurns_186 K q 88 b n m i (nI x) (nI p) (md X I A Y) = K 88 b n m (i + 1) (md X I A' Y) ∧ (∀ k, k ≠ 34 → A' k = A k) ∧ (∀ j, j < 16 → A' 34 j = nI (shF x p t j))
  | 0, p, A, t, h1, h2, h3 => by omega
  | q + 1, 0, A, t, h1, h2, h3 => by
    rw [F_X9_findTurns_186, if_pos (show nI 0 ≤ 0 by decide), md_gr34, Option.bind_some, show (0 : Int32) = nI 0 from rfl, md_is34, ix_nI (show 0 < 16 by omega) (by decide), Option.bind_some, Option.bind_some]
    refine ⟨_, rfl, fun k hk => upA_ne hk, fun j hj => ?_⟩
    rw [upA_self]
    show (if j = 0 then nI x else A 34 j) = nI (if j = 0 then x else t j)
    by_cases z : j = 0
    · rw [if_pos z, if_pos z]
    · rw [if_neg z, if_neg z, h3 j hj]
  | q + 1, p + 1, A, t, h1, h2, h3 => by
    rw [F_X9_findTurns_186, if_neg (nI_nle (by omega) (by omega)), md_gr34, Option.bind_some, Option.bind_some, pre_nI, md_il34, ix_nI (show p < 16 by omega) (by decide), Option.bind_some, Option.bind_some, h3 p (by omega), md_is34, ix_nI (show p + 1 < 16 by omega) (by decide), Option.bind_some, Option.bind_some, dn_nI, pre_nI]
    obtain ⟨A', e, c, g⟩ := mshift_loop (K := K) (b := b) (n := n) (m := m) (i := i) q p (upA A 34 (p + 1) (nI (t p))) (updN t (p + 1) (t p)) (by omega) (by omega) (fun j hj => by
      rw [upA_self]
      by_cases z : j = p + 1
      · rw [z, upd_self, updN_self]
      · rw [upd_ne z, updN_ne z]; exact h3 j hj)
    exact ⟨A', e, fun k hk => (c k hk).trans (upA_ne hk), g⟩
theorem mfront_loop {K : Nat → Int32 → Int32 → Int32 → Int32 → am_H → Option am_H} {I : Nat → Int32} {A : Nat → Nat → Int32} {b n i : Int32} {m x : Nat} {t : Nat → Nat} (hm : m < 24) (hx : x < 16) (ht : fOk t) (h3 : ∀ j, j < 16 → A 34 j = nI (t j)) : ∀ (q k j : Nat), j + k = 15 → k < q → fnd t x k j = fnd t x 15 0 →
    F_X9_findTurns_145 K q 88 b n (nI m) i (nI x) (nI j) (md X I A Y) = F_X9_findTurns_186 K am_F 88 b n (nI (m + 1)) i (nI x) (nI (fnd t x 15 0)) (md X I (upA (upA A 32 m (nI x)) 33 m (nI (fnd t x 15 0))) Y)
  | 0, k, j, h1, h2, h4 => by omega
  | q + 1, k, j, h1, h2, h4 => by
    have hti := ht.1 j (by omega)
    have hfd := fOk_find ht hx
    rw [F_X9_findTurns_145, md_gr34, Option.bind_some, md_il34, ix_nI (show j < 16 by omega) (by decide), Option.bind_some, Option.bind_some, h3 j (by omega)]
    by_cases c : t j = x
    · have ef : fnd t x k j = j := by
        cases k with
        | zero => rfl
        | succ k => exact if_pos c
      rw [if_pos (by rw [c]), md_gr32, Option.bind_some, md_is32, ix_nI hm (by decide), Option.bind_some, Option.bind_some, md_gr33, Option.bind_some, md_is33, ix_nI hm (by decide), Option.bind_some, Option.bind_some, nI_1, ← h4, ef]
    · rw [if_neg (fun z => c ((nI_eq (by omega) (by omega)).mp z)), nI_1]
      cases k with
      | zero =>
        exfalso
        have : fnd t x 0 j = j := rfl
        rw [this] at h4
        rw [← h4] at hfd
        exact c hfd.1
      | succ k =>
        have ef : fnd t x (k + 1) j = fnd t x k (j + 1) := if_neg c
        exact mfront_loop hm hx ht h3 q k (j + 1) (by omega) (by omega) (by rw [← ef]; exact h4)
theorem mlasts_loop (w : WF S) {b : Nat} (hb : b < nb S) : ∀ (q k i : Nat) (I : Nat → Int32) (A : Nat → Nat → Int32), RM S I A → i + k = ln S b + 1 → k < q → (∀ j, j ≤ ln S b → A 31 j = nI (tT (sg S b) (ln S b) j)) → (tE (sg S b) (ln S b) < i → I 35 = nI (tE (sg S b) (ln S b))) →
    (∀ j, j < mI (sg S b) (ln S b) i → A 32 j = nI (tL (sg S b) (ln S b) j) ∧ A 33 j = nI (tP (sg S b) (ln S b) j)) → (∀ j, j < 16 → A 34 j = nI ((mt (tL (sg S b) (ln S b)) (mI (sg S b) (ln S b) i)).1 j)) →
    ∃ I' A', F_X9_findTurns_104 q 88 (nI b) (nI (ln S b + 1)) (nI (mI (sg S b) (ln S b) i)) (nI i) (md X I A Y) = some (md X I' A' Y) ∧ ChT I I' A A' ∧ I' 35 = nI (tE (sg S b) (ln S b)) ∧ (∀ j, j < ln S b → A' 32 j = nI (tL (sg S b) (ln S b) j) ∧ A' 33 j = nI (tP (sg S b) (ln S b) j))
  | 0, k, i, I, A, R, h1, h2, h3, h4, h5, h6 => by omega
  | q + 1, 0, i, I, A, R, h1, h2, h3, h4, h5, h6 => by
    have hl := w.2.2.1.2 b hb
    have ht := (tE_spec (sg S b) (ln S b)).1
    have ei : i = ln S b + 1 := by omega
    subst ei
    rw [F_X9_findTurns_104, if_pos (nI_le (Nat.le_refl _) (by omega))]
    rw [mI_all] at h5
    exact ⟨I, A, rfl, ChT.rf, h4 (by omega), h5⟩
  | q + 1, k + 1, i, I, A, R, h1, h2, h3, h4, h5, h6 => by
    have hl := w.2.2.1.2 b hb
    have ht := tE_spec (sg S b) (ln S b)
    have hti := tT_le (sg S b) (ln S b) i (by omega)
    rw [F_X9_findTurns_104, if_neg (nI_ge (by omega) (by omega)), md_gr31, Option.bind_some, md_il31, ix_nI (show i < 25 by omega) (by decide), Option.bind_some, Option.bind_some, h3 i (by omega), pre_nI, tsign_t w R hb (by omega) (by omega), Option.bind_some]
    by_cases c : i = tE (sg S b) (ln S b)
    · have e0 := (ht.2 i (by omega)).mpr c
      rw [e0, Nat.zero_add, Nat.mod_eq_of_lt (by omega), show eI (sg S b) (ln S b) (ln S b) = -1 by unfold eI; rw [if_neg (by omega)], if_pos rfl, md_pi35, Option.bind_some]
      unfold F_X9_findTurns_221
      rw [nI_1]
      have em : mI (sg S b) (ln S b) (i + 1) = mI (sg S b) (ln S b) i := by rw [c]; exact mI_end _ _
      have c1 : ChT I (upd I 35 (nI i)) A A := ⟨fun k hk => upd_ne hk, fun _ _ => rfl⟩
      obtain ⟨I', A', e, ch, g⟩ := mlasts_loop w hb q k (i + 1) (upd I 35 (nI i)) A (c1.rm R) (by omega) (by omega) h3 (fun _ => by rw [upd_self, c]) (by rw [em]; exact h5) (by rw [em]; exact h6)
      rw [em] at e
      exact ⟨I', A', e, c1.tr ch, g⟩
    · have hz : ¬ tT (sg S b) (ln S b) i = 0 := fun z => c ((ht.2 i (by omega)).mp z)
      obtain ⟨m1, m2⟩ := mI_step (sg S b) (ln S b) i c
      have hmi : mI (sg S b) (ln S b) i < ln S b := by
        have := ht.1
        unfold mI
        split <;> omega
      have hL := tL_lt (s := sg S b) hl.2 hmi
      obtain ⟨ok, -⟩ := mt_ok (L := tL (sg S b) (ln S b)) (fun j hj => tL_lt hl.2 hj) (mI (sg S b) (ln S b) i) (by omega)
      have hp := fOk_find ok hL
      rw [show tT (sg S b) (ln S b) i + ln S b = tT (sg S b) (ln S b) i - 1 + (ln S b + 1) by omega, Nat.add_mod_right, Nat.mod_eq_of_lt (by omega), show eI (sg S b) (ln S b) (tT (sg S b) (ln S b) i - 1) = nI (tL (sg S b) (ln S b) (mI (sg S b) (ln S b) i)) by unfold eI; rw [if_pos (by omega), m2], if_neg (nI_nm1 (by omega))]
      refine Exists.elim (mshift_loop (X := X) (Y := Y) (K := F_X9_findTurns_104 q) (I := I) (b := nI b) (n := nI (ln S b + 1)) (m := nI (mI (sg S b) (ln S b) i + 1)) (i := nI i) (x := tL (sg S b) (ln S b) (mI (sg S b) (ln S b) i)) am_F (fnd (mt (tL (sg S b) (ln S b)) (mI (sg S b) (ln S b) i)).1 (tL (sg S b) (ln S b) (mI (sg S b) (ln S b) i)) 15 0) (upA (upA A 32 (mI (sg S b) (ln S b) i) (nI (tL (sg S b) (ln S b) (mI (sg S b) (ln S b) i)))) 33 (mI (sg S b) (ln S b) i) (nI (fnd (mt (tL (sg S b) (ln S b)) (mI (sg S b) (ln S b) i)).1 (tL (sg S b) (ln S b) (mI (sg S b) (ln S b) i)) 15 0))) (mt (tL (sg S b) (ln S b)) (mI (sg S b) (ln S b) i)).1 (by omega) (by show _ < 100000; omega) (fun j hj => by rw [upA_ne (by decide), upA_ne (by decide)]; exact h6 j hj)) ?_
      rintro A1 ⟨e1, a1, g1⟩
      have f1 : A1 32 = upd (A 32) (mI (sg S b) (ln S b) i) (nI (tL (sg S b) (ln S b) (mI (sg S b) (ln S b) i))) := by rw [a1 _ (by decide), upA_ne (by decide), upA_self]
      have f2 : A1 33 = upd (A 33) (mI (sg S b) (ln S b) i) (nI (fnd (mt (tL (sg S b) (ln S b)) (mI (sg S b) (ln S b) i)).1 (tL (sg S b) (ln S b) (mI (sg S b) (ln S b) i)) 15 0)) := by rw [a1 _ (by decide), upA_self, upA_ne (by decide)]
      have ch1 : ChT I I A A1 := ⟨fun _ _ => rfl, fun k hk => by rw [a1 k (by omega), upA_ne (by omega), upA_ne (by omega)]⟩
      have ep : tP (sg S b) (ln S b) (mI (sg S b) (ln S b) i) = fnd (mt (tL (sg S b) (ln S b)) (mI (sg S b) (ln S b) i)).1 (tL (sg S b) (ln S b) (mI (sg S b) (ln S b) i)) 15 0 := by
        rw [← tP_mt (i := mI (sg S b) (ln S b) i + 1) (by omega) (by omega)]
        exact updN_self
      obtain ⟨I', A', e, ch, g⟩ := mlasts_loop w hb q k (i + 1) I A1 (ch1.rm R) (by omega) (by omega) (fun j hj => by rw [a1 _ (by decide), upA_ne (by decide), upA_ne (by decide)]; exact h3 j hj) (fun z => h4 (by omega)) (fun j hj => by
        rw [f1, f2]
        by_cases z : j = mI (sg S b) (ln S b) i
        · rw [z, upd_self, upd_self, ep]; exact ⟨rfl, rfl⟩
        · rw [upd_ne z, upd_ne z]; exact h5 j (by omega)) (fun j hj => by rw [m1]; exact g1 j hj)
      refine ⟨I', A', ?_, ch1.tr ch, g⟩
      rw [show (0 : Int32) = nI 0 from rfl]
      refine (mfront_loop (by omega) hL ok h6 am_F 15 0 (by omega) (by show _ < 100000; omega) rfl).trans ?_
      refine e1.trans ?_
      rw [nI_1, ← m1]
      exact e
theorem mfront0_loop {I : Nat → Int32} {b n : Int32} : ∀ (q k i : Nat) (A : Nat → Nat → Int32), i + k = 16 → k < q → (∀ j, j < i → A 34 j = nI j) →
    ∃ A', F_X9_findTurns_80 q 88 b n (nI i) (md X I A Y) = F_X9_findTurns_104 am_F 88 b n 0 0 (md X I A' Y) ∧ (∀ k, k ≠ 34 → A' k = A k) ∧ (∀ j, j < 16 → A' 34 j = nI j)
  | 0, k, i, A, h1, h2, h3 => by omega
  | q + 1, 0, i, A, h1, h2, h3 => by
    rw [F_X9_findTurns_80, if_pos (show (16 : Int32) ≤ nI i from nI_le (a := 16) (by omega) (by omega))]
    exact ⟨A, rfl, fun _ _ => rfl, fun j hj => h3 j (by omega)⟩
  | q + 1, k + 1, i, A, h1, h2, h3 => by
    rw [F_X9_findTurns_80, if_neg (show ¬ (16 : Int32) ≤ nI i from nI_ge (b := 16) (by omega) (by decide)), md_gr34, Option.bind_some, md_is34, ix_nI (show i < 16 by omega) (by decide), Option.bind_some, Option.bind_some, nI_1]
    obtain ⟨A', e, c, g⟩ := mfront0_loop (b := b) (n := n) q k (i + 1) (upA A 34 i (nI i)) (by omega) (by omega) (fun j hj => by
      rw [upA_self]
      by_cases z : j = i
      · rw [z, upd_self]
      · rw [upd_ne z]; exact h3 j (by omega))
    exact ⟨A', e, fun k hk => (c k hk).trans (upA_ne hk), g⟩
theorem msort_loop (w : WF S) {b : Nat} {I : Nat → Int32} (hb : b < nb S) : ∀ (q k i : Nat) (A : Nat → Nat → Int32), RM S I A → i + k = ln S b + 1 → k < q → (∀ j, j < i → A 31 j = nI (srt (sg S b) (ln S b) i j)) →
    ∃ I' A', F_X9_findTurns_11 q 88 (nI b) (nI (ln S b + 1)) (nI i) (md X I A Y) = some (md X I' A' Y) ∧ ChT I I' A A' ∧ I' 35 = nI (tE (sg S b) (ln S b)) ∧ (∀ j, j < ln S b → A' 32 j = nI (tL (sg S b) (ln S b) j) ∧ A' 33 j = nI (tP (sg S b) (ln S b) j))
  | 0, k, i, A, R, h1, h2, h3 => by omega
  | q + 1, 0, i, A, R, h1, h2, h3 => by
    have hl := w.2.2.1.2 b hb
    rw [F_X9_findTurns_11, if_pos (nI_le (by omega) (by omega))]
    obtain ⟨A1, e1, a1, g1⟩ := mfront0_loop (X := X) (Y := Y) (I := I) (b := nI b) (n := nI (ln S b + 1)) am_F 16 0 A (by omega) (by show _ < 100000; omega) (fun j hj => by omega)
    have c1 : ChT I I A A1 := ⟨fun _ _ => rfl, fun k hk => a1 k (by omega)⟩
    have em : mI (sg S b) (ln S b) 0 = 0 := by unfold mI; rw [if_pos (Nat.zero_le _)]
    obtain ⟨I', A', e, c, g⟩ := mlasts_loop (X := X) (Y := Y) w hb am_F (ln S b + 1) 0 I A1 (c1.rm R) (by omega) (by show _ < 100000; omega) (fun j hj => by rw [a1 _ (by decide), h3 j (by omega), show i = ln S b + 1 by omega]; rfl) (fun z => by omega) (fun j hj => by omega) (fun j hj => by rw [em]; exact g1 j hj)
    rw [em] at e
    exact ⟨I', A', (e1.trans e), c1.tr c, g⟩
  | q + 1, k + 1, i, A, R, h1, h2, h3 => by
    have hl := w.2.2.1.2 b hb
    rw [F_X9_findTurns_11, if_neg (nI_ge (by omega) (by omega))]
    obtain ⟨A1, e1, c1, g1⟩ := mins_loop (X := X) (Y := Y) (K := F_X9_findTurns_11 q) w hb (show i ≤ ln S b by omega) am_F i A (srt (sg S b) (ln S b) i) R (Nat.le_refl _) (by show _ < 100000; omega) (fun j hj hjk => ⟨h3 j (by omega), srt_lt _ _ i j (by omega)⟩)
    obtain ⟨I', A', e, c, g⟩ := msort_loop w hb q k (i + 1) A1 (c1.rm R) (by omega) (by omega) (fun j hj => g1 j (by omega))
    exact ⟨I', A', e1.trans e, c1.tr c, g⟩
theorem findTurns_t (w : WF S) {b : Nat} {I : Nat → Int32} {A : Nat → Nat → Int32} (R : RM S I A) (hb : b < nb S) : ∃ I' A', F_X9_findTurns 88 (nI b) (md X I A Y) = some (md X I' A' Y) ∧ ChT I I' A A' ∧ I' 35 = nI (tE (sg S b) (ln S b)) ∧ (∀ j, j < ln S b → A' 32 j = nI (tL (sg S b) (ln S b) j) ∧ A' 33 j = nI (tP (sg S b) (ln S b) j)) := by
  have hl := w.2.2.1.2 b hb
  unfold F_X9_findTurns F_X9_findTurns_b
  rw [md_obj, Option.bind_some, md_gr3, Option.bind_some, A3 w R hb, Option.bind_some, nI_1]
  exact msort_loop w hb am_F (ln S b + 1) 0 A R (by omega) (by show _ < 100000; omega) (fun j hj => by omega)
end TM
/-! turned -/
def sp_turned (S : sS) (b x i : Int32) : Int32 := if vd (nb S) b then (if 0 ≤ x.toInt ∧ x.toInt ≤ 2 then (if tn S b.toNatClampNeg = true then -100005 else if x = 0 then nI (tE (sg S b.toNatClampNeg) (ln S b.toNatClampNeg)) else if vd (ln S b.toNatClampNeg) i then (if x = 1 then nI (tL (sg S b.toNatClampNeg) (ln S b.toNatClampNeg) i.toNatClampNeg) else nI (tP (sg S b.toNatClampNeg) (ln S b.toNatClampNeg) i.toNatClampNeg)) else -1) else -100002) else -100001
section TU
variable {Z : sZ} {S : sS} {pb pv : Nat → Nat} {h : am_H}
theorem RX.ta (C : RX Z S pb pv h) : ∃ e T F m f m' f', TA h e T F m f m' f' := by
  obtain ⟨s1, s2, s3, s4, s5, s6, s7, ⟨⟨a, o1⟩, ⟨T, o2⟩, ⟨F, o3⟩, ⟨n, f, o4⟩, ⟨n', f', o5⟩⟩, s9⟩ := C.2.2.2.2.2.2.2.1
  exact ⟨a, T, F, n, f, n', f', o1, o2, o3, o4, o5⟩
theorem TA.scr {h' : am_H} {e : Int32} {T F f f' : Nat → Int32} {m m' : Nat} (C : RX Z S pb pv h) (G : Fr inT h h') (M : TA h' e T F m f m' f') : RX Z S pb pv h' :=
  C.scr G (fun q z => by unfold inT at z; omega) (C.2.2.2.2.2.2.2.1.T G ⟨⟨_, M.1⟩, ⟨_, M.2.1⟩, ⟨_, M.2.2.1⟩, ⟨_, _, M.2.2.2.1⟩, ⟨_, _, M.2.2.2.2⟩⟩)
theorem turns_t (w : WF S) (C : RX Z S pb pv h) {b : Nat} (hb : b < nb S) (ht : tn S b = false) : ∃ h' T F f f', F_X6_squeeze 64 (rD (pb b) + 5) h = some h' ∧ RX Z S pb pv h' ∧ TA h' (nI (tE (sg S b) (ln S b))) T F (ln S b) f (ln S b) f' ∧ Fr inT h h' ∧ (∀ j, j < ln S b → f j = nI (tL (sg S b) (ln S b) j)) ∧ (∀ j, j < ln S b → f' j = nI (tP (sg S b) (ln S b) j)) := by
  obtain ⟨e, T, F, m, f, m', f', M⟩ := C.ta
  obtain ⟨h', T', F', f2, f3, e', r, M', G, g⟩ := squeezeT_t (C.sgAt w hb ht) M
  exact ⟨h', T', F', f2, f3, e', M'.scr C G, M', G, g⟩
theorem x_turned (w : WF S) (C : RX Z S pb pv h) (b x i : Int32) : ∃ h', F_X8_turned 1 b x i h = some (sp_turned S b x i, h') ∧ RX Z S pb pv h' ∧ Fr inT h h' := by
  unfold sp_turned F_X8_turned F_X8_turned_b F_X8_turned_24
  rw [C.ob]
  have a0 : (x < (0 : Int32)) ↔ x.toInt < 0 := (lt_lit (x := x) (n := 0) (by decide)).1
  have a1 : (x ≤ (2 : Int32)) ↔ x.toInt ≤ 2 := (lt_lit (x := x) (n := 2) (by decide)).2.2.1
  by_cases hb : vd (nb S) b
  · obtain ⟨j, hj, rfl⟩ := nI_of_toInt hb.1 hb.2
    have hn := w.2.2.1.1
    have hl := (w.2.2.1.2 j hj)
    have B := C.2.2.2.2.2.1 j hj
    rw [if_pos hb, cl_nI (show j < 2 ^ 31 by omega), blockOf_t w C hj, Option.bind_some, if_neg (rD_ne _)]
    by_cases c1 : x.toInt < 0
    · rw [if_pos (a0.mpr c1), if_neg (fun q => by omega)]
      exact ⟨h, rfl, C, Fr.rf⟩
    rw [if_neg (fun q => c1 (a0.mp q))]
    by_cases c2 : x.toInt ≤ 2
    · rw [if_pos (a1.mpr c2), if_pos (show 0 ≤ x.toInt ∧ x.toInt ≤ 2 by omega), B.f.2.2.2, Option.bind_some]
      cases ht : tn S j with
      | true =>
        rw [if_neg (show ¬ bI true = 0 by decide), if_pos (rfl : true = true)]
        exact ⟨h, rfl, C, Fr.rf⟩
      | false =>
        obtain ⟨h', T, F, f, f', e, C', M, G, g1, g2⟩ := turns_t w C hj ht
        refine ⟨h', ?_, C', G⟩
        rw [if_pos (show bI false = 0 from rfl), if_neg (show ¬ false = true by decide), C.gr (k := 14) (x := 64) (fun _ => rfl), Option.bind_some, B.f.1, Option.bind_some, e, Option.bind_some, C'.gr (k := 14) (x := 64) (fun _ => rfl), Option.bind_some, Option.bind_some, Option.bind_some, M.gr.2.2.2.2, Option.bind_some, M.gr.2.2.1, Option.bind_some, M.gr.2.2.2.1, Option.bind_some, row_at_any M.2.2.2.1, Option.bind_some, row_at_any M.2.2.2.2, Option.bind_some]
        by_cases c3 : x = 0
        · rw [if_pos c3, if_pos c3]
        rw [if_neg c3, if_neg c3]
        by_cases c4 : vd (ln S j) i
        · obtain ⟨z, hz, rfl⟩ := nI_of_toInt c4.1 c4.2
          rw [if_pos c4, if_pos c4, if_pos c4, cl_nI (by omega), g1 z hz, g2 z hz]
          by_cases c5 : x = 1
          · rw [if_pos c5, if_pos c5]
          · rw [if_neg c5, if_neg c5]
        · rw [if_neg c4, if_neg c4, if_neg c4]
          by_cases c5 : x = 1
          · rw [if_pos c5]
          · rw [if_neg c5]
    · rw [if_neg (fun q => c2 (a1.mp q)), if_neg (fun q => by omega)]
      exact ⟨h, rfl, C, Fr.rf⟩
  · rw [if_neg hb, blockOf_f w C hb, Option.bind_some, if_pos rfl]
    exact ⟨h, rfl, C, Fr.rf⟩
end TU
section TUM
variable {X : Fin 87 → am_C} {I : Nat → Int32} {A : Nat → Nat → Int32} {Y : am_H} {S : sS}
theorem m_turned (w : WF S) (R : RM S I A) (b x i : Int32) : ∃ I' A', F_X9_turned 88 b x i (md X I A Y) = some (sp_turned S b x i, md X I' A' Y) ∧ RM S I' A' := by
  unfold sp_turned F_X9_turned F_X9_turned_b F_X9_turned_96
  rw [md_obj, Option.bind_some]
  by_cases hb : vd (nb S) b
  · obtain ⟨j, hj, rfl⟩ := nI_of_toInt hb.1 hb.2
    have hn := w.2.2.1.1
    have hl := (w.2.2.1.2 j hj)
    rw [if_pos hb, cl_nI (show j < 2 ^ 31 by omega), noB_t w R hb, Option.bind_some, if_pos rfl, in_spec, Option.bind_some, Int32.toInt_toInt64, show (0 : Int64).toInt = 0 from rfl, show (2 : Int64).toInt = 2 from rfl]
    by_cases c1 : 0 ≤ x.toInt ∧ x.toInt ≤ 2
    · rw [if_pos c1, if_neg i1ne0, if_pos c1, md_gr5, Option.bind_some, A5 w R hj, Option.bind_some]
      cases ht : tn S j with
      | true =>
        rw [if_neg (show ¬ bI true = 0 by decide), if_pos (rfl : true = true)]
        exact ⟨I, A, rfl, R⟩
      | false =>
        obtain ⟨I', A', e, c, g1, g2⟩ := findTurns_t (X := X) (Y := Y) w R hj
        have R' := c.rm R
        refine ⟨I', A', ?_, R'⟩
        rw [if_pos (show bI false = 0 from rfl), if_neg (show ¬ false = true by decide), e, Option.bind_some, md_gi35, Option.bind_some, g1, md_gr3, Option.bind_some, A3 w R' hj, Option.bind_some, in_spec, Option.bind_some, Int32.toInt_toInt64, Int32.toInt_toInt64, nI_pre (by omega), show (0 : Int64).toInt = 0 from rfl]
        by_cases c3 : x = 0
        · rw [if_pos c3, if_pos c3]
        rw [if_neg c3, if_neg c3]
        by_cases c4 : vd (ln S j) i
        · rw [if_pos (show 0 ≤ i.toInt ∧ i.toInt ≤ ((ln S j : Nat) : Int) - 1 by unfold vd at c4; omega), if_neg i1ne0, if_pos c4]
          obtain ⟨z, hz, rfl⟩ := nI_of_toInt c4.1 c4.2
          rw [md_gr32, Option.bind_some, md_il32, ix_nI (show z < 24 by omega) (by decide), Option.bind_some, Option.bind_some, md_gr33, Option.bind_some, md_il33, ix_nI (show z < 24 by omega) (by decide), Option.bind_some, Option.bind_some, (g2 z hz).1, (g2 z hz).2, cl_nI (by omega)]
          by_cases c5 : x = 1
          · rw [if_pos c5, if_pos c5]
          · rw [if_neg c5, if_neg c5]
        · rw [if_neg (show ¬ (0 ≤ i.toInt ∧ i.toInt ≤ ((ln S j : Nat) : Int) - 1) by unfold vd at c4; omega), if_pos rfl, if_neg c4]
    · rw [if_neg c1, if_pos rfl, if_neg c1]
      exact ⟨I, A, rfl, R⟩
  · rw [if_neg hb, noB_f w R hb, Option.bind_some, if_neg i1ne0]
    exact ⟨I, A, rfl, R⟩
end TUM
section OPS10
variable {Z : sZ}
theorem o_turned : am_op_turned (Inv Z) := by
  rintro h a0 a1 a2 ⟨S, pb, pv, X, I, A, Y, w, R, rfl, C, hn⟩
  obtain ⟨h1, e, C', F⟩ := x_turned w C a0 a1 a2
  obtain ⟨h2, e2, hI⟩ := Inv.fin (f := F_X9_turned 88 a0 a1 a2) (r := sp_turned S a0 a1 a2) w (fun q q1 q2 => F.2.2 q (by unfold inT; omega)) C' (by rw [F.2.1]; exact hn) (fun X Y => m_turned w R a0 a1 a2)
  exact ⟨_, h1, h2, e, e2, hI⟩
end OPS10
