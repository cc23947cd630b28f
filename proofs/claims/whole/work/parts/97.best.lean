/-! THE BEST: what both work out. sz, tm: sizes and times by blocks and kinds -/
section BP
variable (n : Nat) (sz tm : Nat → Nat → Nat)
def swF (nx : Nat → Nat) (i k t : Nat) : Nat := if t < tm i k then 1000000 else sz i k + nx (t - tm i k)
def bsK (nx : Nat → Nat) (i t : Nat) : Nat → Nat
  | 0 => 1000000
  | k + 1 => if swF sz tm nx i k t < bsK nx i t k then swF sz tm nx i k t else bsK nx i t k
/-- the least size of the last r blocks within t -/
def bsR : Nat → Nat → Nat
  | 0, _ => 0
  | r + 1, t => bsK sz tm (bsR r) (n - (r + 1)) t 5
def bs (i t : Nat) : Nat := bsR n sz tm (n - i) t
def sw (i k t : Nat) : Nat := swF sz tm (bs n sz tm (i + 1)) i k t
def kdF (i t : Nat) : Nat → Nat → Nat
  | 0, k => k
  | f + 1, k => if sw n sz tm i k t = bs n sz tm i t then k else kdF i t f (k + 1)
def kd (i t : Nat) : Nat := kdF n sz tm i t 4 0
/-- what is left of t ahead of block j -/
def lf (t : Nat) : Nat → Nat
  | 0 => t
  | j + 1 => lf t j - tm j (kd n sz tm j (lf t j))
def tmS (t : Nat) : Nat → Nat := sumN (fun j => tm j (kd n sz tm j (lf n sz tm t j)))
def smF (i : Nat) : Nat → Nat
  | 0 => 0
  | k + 1 => if sz i k < sz i (smF i k) then k else smF i k
abbrev sm (i : Nat) : Nat := smF sz i 5
def tS : Nat → Nat := sumN (fun i => tm i (sm sz i))
def mS : Nat → Nat := sumN (fun i => sz i (sm sz i))
end BP
section BP2
variable {n : Nat} {sz tm : Nat → Nat → Nat}
theorem bs_end (t : Nat) : bs n sz tm n t = 0 := by
  unfold bs
  rw [Nat.sub_self]
  rfl
theorem bs_step {i : Nat} (hi : i < n) (t : Nat) : bs n sz tm i t = bsK sz tm (bs n sz tm (i + 1)) i t 5 := by
  unfold bs
  have e : n - i = (n - (i + 1)) + 1 := by omega
  rw [e]
  show bsK sz tm (bsR n sz tm (n - (i + 1))) (n - (n - (i + 1) + 1)) t 5 = _
  rw [show n - (n - (i + 1) + 1) = i by omega]
theorem bsK_le (nx : Nat → Nat) (i t : Nat) : ∀ k, bsK sz tm nx i t k ≤ 1000000 ∧ (∀ j, j < k → bsK sz tm nx i t k ≤ swF sz tm nx i j t) ∧ (bsK sz tm nx i t k < 1000000 → ∃ j, j < k ∧ swF sz tm nx i j t = bsK sz tm nx i t k)
  | 0 => ⟨Nat.le_refl _, fun j hj => by omega, fun h => by have h : (1000000 : Nat) < 1000000 := h; omega⟩
  | k + 1 => by
    obtain ⟨h1, h2, h3⟩ := bsK_le nx i t k
    have e : bsK sz tm nx i t (k + 1) = if swF sz tm nx i k t < bsK sz tm nx i t k then swF sz tm nx i k t else bsK sz tm nx i t k := rfl
    rw [e]
    by_cases c : swF sz tm nx i k t < bsK sz tm nx i t k
    · rw [if_pos c]
      refine ⟨by omega, fun j hj => ?_, fun _ => ⟨k, by omega, rfl⟩⟩
      by_cases z : j = k
      · rw [z]; exact Nat.le_refl _
      · have := h2 j (by omega); omega
    · rw [if_neg c]
      refine ⟨h1, fun j hj => ?_, fun h => ?_⟩
      · by_cases z : j = k
        · rw [z]; omega
        · exact h2 j (by omega)
      · obtain ⟨j, a, b⟩ := h3 h
        exact ⟨j, by omega, b⟩
theorem bs_le (i t : Nat) (hi : i ≤ n) : bs n sz tm i t ≤ 1000000 := by
  by_cases h : i < n
  · rw [bs_step h]; exact (bsK_le _ _ _ 5).1
  · rw [show i = n by omega, bs_end]; omega
theorem kdF_spec (i t : Nat) : ∀ f k, k ≤ kdF n sz tm i t f k ∧ kdF n sz tm i t f k ≤ k + f ∧ (∀ j, k ≤ j → j < kdF n sz tm i t f k → sw n sz tm i j t ≠ bs n sz tm i t) ∧ (kdF n sz tm i t f k < k + f → sw n sz tm i (kdF n sz tm i t f k) t = bs n sz tm i t)
  | 0, k => ⟨Nat.le_refl _, Nat.le_refl _, fun j h1 h2 => by unfold kdF at h2; omega, fun h => by unfold kdF at h; omega⟩
  | f + 1, k => by
    unfold kdF
    by_cases c : sw n sz tm i k t = bs n sz tm i t
    · rw [if_pos c]
      exact ⟨Nat.le_refl _, by omega, fun j h1 h2 => by omega, fun _ => c⟩
    · rw [if_neg c]
      obtain ⟨a1, a2, a3, a4⟩ := kdF_spec i t f (k + 1)
      refine ⟨by omega, by omega, fun j h1 h2 => ?_, fun h => a4 (by omega)⟩
      by_cases e : j = k
      · rw [e]; exact c
      · exact a3 j (by omega) h2
theorem kd_spec {i t : Nat} (hi : i < n) (h : bs n sz tm i t < 1000000) : kd n sz tm i t ≤ 4 ∧ sw n sz tm i (kd n sz tm i t) t = bs n sz tm i t ∧ ∀ j, j < kd n sz tm i t → sw n sz tm i j t ≠ bs n sz tm i t := by
  obtain ⟨a1, a2, a3, a4⟩ := kdF_spec (n := n) (sz := sz) (tm := tm) i t 4 0
  refine ⟨by show kdF n sz tm i t 4 0 ≤ 4; omega, ?_, fun j hj => a3 j (by omega) hj⟩
  by_cases c : kdF n sz tm i t 4 0 < 0 + 4
  · exact a4 c
  · have e4 : kdF n sz tm i t 4 0 = 4 := by omega
    have hb := bs_step (sz := sz) (tm := tm) hi t
    obtain ⟨-, -, h3⟩ := bsK_le (sz := sz) (tm := tm) (bs n sz tm (i + 1)) i t 5
    obtain ⟨j, j1, j2⟩ := h3 (by rw [← hb]; exact h)
    have j3 : sw n sz tm i j t = bs n sz tm i t := by rw [hb]; exact j2
    by_cases z : j = 4
    · show sw n sz tm i (kdF n sz tm i t 4 0) t = _
      rw [e4, ← z]; exact j3
    · exact absurd j3 (a3 j (by omega) (by omega))
theorem kd_fit {i t : Nat} (hi : i < n) (h : bs n sz tm i t < 1000000) : tm i (kd n sz tm i t) ≤ t ∧ sz i (kd n sz tm i t) + bs n sz tm (i + 1) (t - tm i (kd n sz tm i t)) = bs n sz tm i t := by
  obtain ⟨-, h2, -⟩ := kd_spec hi h
  unfold sw swF at h2
  by_cases c : t < tm i (kd n sz tm i t)
  · rw [if_pos c] at h2; omega
  · rw [if_neg c] at h2
    exact ⟨by omega, h2⟩
theorem lf_ok {t : Nat} (h : bs n sz tm 0 t < 1000000) : ∀ j, j ≤ n → bs n sz tm j (lf n sz tm t j) < 1000000 ∧ lf n sz tm t j + tmS n sz tm t j = t
  | 0, _ => ⟨h, rfl⟩
  | j + 1, hj => by
    obtain ⟨h1, h2⟩ := lf_ok h j (by omega)
    obtain ⟨f1, f2⟩ := kd_fit (show j < n by omega) h1
    refine ⟨?_, ?_⟩
    · show bs n sz tm (j + 1) (lf n sz tm t j - tm j (kd n sz tm j (lf n sz tm t j))) < 1000000
      omega
    · show lf n sz tm t j - tm j (kd n sz tm j (lf n sz tm t j)) + (tmS n sz tm t j + tm j (kd n sz tm j (lf n sz tm t j))) = t
      omega
theorem smF_spec (i : Nat) : ∀ k, (smF sz i k ≤ k - 1) ∧ (∀ j, j < k → sz i (smF sz i k) ≤ sz i j) ∧ ∀ j, j < smF sz i k → sz i (smF sz i k) < sz i j
  | 0 => ⟨Nat.le_refl _, fun j hj => by omega, fun j hj => by have : j < 0 := hj; omega⟩
  | k + 1 => by
    obtain ⟨h1, h2, h3⟩ := smF_spec i k
    have e : smF sz i (k + 1) = if sz i k < sz i (smF sz i k) then k else smF sz i k := rfl
    rw [e]
    by_cases c : sz i k < sz i (smF sz i k)
    · rw [if_pos c]
      refine ⟨by omega, fun j hj => ?_, fun j hj => ?_⟩
      · by_cases z : j = k
        · rw [z]; exact Nat.le_refl _
        · have := h2 j (by omega); omega
      · have := h2 j hj; omega
    · rw [if_neg c]
      refine ⟨by omega, fun j hj => ?_, h3⟩
      by_cases z : j = k
      · rw [z]; omega
      · exact h2 j (by omega)
theorem bs_low (hm : mS sz n ≤ 900000) : ∀ r i, i + r = n → ∀ t, mS sz n - mS sz i ≤ bs n sz tm i t
  | 0, i, hi, t => by
    have e : i = n := by omega
    rw [e, Nat.sub_self]
    exact Nat.zero_le _
  | r + 1, i, hi, t => by
    have hb := bs_step (sz := sz) (tm := tm) (show i < n by omega) t
    have e1 : mS sz (i + 1) = mS sz i + sz i (sm sz i) := rfl
    have e2 : mS sz (i + 1) ≤ mS sz n := sumN_mono (by omega)
    have key : ∀ k, k ≤ 5 → mS sz n - mS sz i ≤ bsK sz tm (bs n sz tm (i + 1)) i t k := by
      intro k
      induction k with
      | zero => intro _; show mS sz n - mS sz i ≤ 1000000; omega
      | succ k ih =>
        intro hk
        have e : bsK sz tm (bs n sz tm (i + 1)) i t (k + 1) = if swF sz tm (bs n sz tm (i + 1)) i k t < bsK sz tm (bs n sz tm (i + 1)) i t k then swF sz tm (bs n sz tm (i + 1)) i k t else bsK sz tm (bs n sz tm (i + 1)) i t k := rfl
        rw [e]
        split
        · unfold swF
          split
          · omega
          · have h1 := bs_low hm r (i + 1) (by omega) (t - tm i k)
            have h2 := (smF_spec (sz := sz) i 5).2.1 k (by omega)
            have h2 : sz i (sm sz i) ≤ sz i k := h2
            omega
        · exact ih (by omega)
    rw [hb]
    exact key 5 (by omega)
theorem bs_ample (hm : mS sz n ≤ 900000) : ∀ r i, i + r = n → ∀ t, tS sz tm n - tS sz tm i ≤ t → bs n sz tm i t = mS sz n - mS sz i
  | 0, i, hi, t, ht => by
    have e : i = n := by omega
    rw [e, bs_end, Nat.sub_self]
  | r + 1, i, hi, t, ht => by
    have hlow := bs_low (tm := tm) hm (r + 1) i hi t
    have hb := bs_step (sz := sz) (tm := tm) (show i < n by omega) t
    have e1 : mS sz (i + 1) = mS sz i + sz i (sm sz i) := rfl
    have e2 : mS sz (i + 1) ≤ mS sz n := sumN_mono (by omega)
    have e3 : tS sz tm (i + 1) = tS sz tm i + tm i (sm sz i) := rfl
    have e4 : tS sz tm (i + 1) ≤ tS sz tm n := sumN_mono (by omega)
    have hs := (smF_spec (sz := sz) i 5).1
    have hs : sm sz i ≤ 5 - 1 := hs
    have h1 := (bsK_le (sz := sz) (tm := tm) (bs n sz tm (i + 1)) i t 5).2.1 (sm sz i) (by omega)
    have ih := bs_ample hm r (i + 1) (by omega) (t - tm i (sm sz i)) (by omega)
    have h2 : swF sz tm (bs n sz tm (i + 1)) i (sm sz i) t = mS sz n - mS sz i := by
      unfold swF
      rw [if_neg (by omega), ih]
      omega
    rw [hb] at hlow ⊢
    omega
theorem kd_ample (hm : mS sz n ≤ 900000) {i t : Nat} (hi : i < n) (ht : tS sz tm n - tS sz tm i ≤ t) : kd n sz tm i t = sm sz i := by
  have hb := bs_ample hm (n - i) i (by omega) t ht
  have e1 : mS sz (i + 1) = mS sz i + sz i (sm sz i) := rfl
  have e2 : mS sz (i + 1) ≤ mS sz n := sumN_mono (by omega)
  have e3 : tS sz tm (i + 1) = tS sz tm i + tm i (sm sz i) := rfl
  have e4 : tS sz tm (i + 1) ≤ tS sz tm n := sumN_mono (by omega)
  obtain ⟨s1, s2, s3⟩ := smF_spec (sz := sz) i 5
  have s1 : sm sz i ≤ 4 := s1
  obtain ⟨k1, k2, k3⟩ := kd_spec hi (by omega : bs n sz tm i t < 1000000)
  have hsm : sw n sz tm i (sm sz i) t = bs n sz tm i t := by
    unfold sw swF
    rw [if_neg (by omega), bs_ample hm (n - (i + 1)) (i + 1) (by omega) (t - tm i (sm sz i)) (by omega), hb]
    omega
  rcases Nat.lt_trichotomy (kd n sz tm i t) (sm sz i) with c | c | c
  · exfalso
    have h1 := s3 (kd n sz tm i t) c
    have h1 : sz i (sm sz i) < sz i (kd n sz tm i t) := h1
    obtain ⟨f1, f2⟩ := kd_fit hi (by omega : bs n sz tm i t < 1000000)
    have h2 := bs_low (tm := tm) hm (n - (i + 1)) (i + 1) (by omega) (t - tm i (kd n sz tm i t))
    omega
  · exact c
  · exact absurd hsm (k3 _ c)
theorem lf_ample (hm : mS sz n ≤ 900000) {t : Nat} (ht : tS sz tm n ≤ t) : ∀ j, j ≤ n → lf n sz tm t j = t - tS sz tm j
  | 0, _ => rfl
  | j + 1, hj => by
    have ih := lf_ample hm ht j (by omega)
    have e3 : tS sz tm (j + 1) = tS sz tm j + tm j (sm sz j) := rfl
    have e4 : tS sz tm (j + 1) ≤ tS sz tm n := sumN_mono (by omega)
    have e5 : tS sz tm j ≤ tS sz tm n := sumN_mono (by omega)
    show lf n sz tm t j - tm j (kd n sz tm j (lf n sz tm t j)) = _
    rw [kd_ample hm (show j < n by omega) (by rw [ih]; omega), ih]
    omega
/-- more time than the smallest kinds take makes nothing smaller -/
theorem best_same (hm : mS sz n ≤ 900000) {t u : Nat} (ht : t = u ∨ (tS sz tm n ≤ t ∧ tS sz tm n ≤ u)) : bs n sz tm 0 t = bs n sz tm 0 u ∧ (∀ j, j < n → kd n sz tm j (lf n sz tm t j) = kd n sz tm j (lf n sz tm u j)) ∧ tmS n sz tm t n = tmS n sz tm u n := by
  rcases ht with ht | ⟨h1, h2⟩
  · rw [ht]; exact ⟨rfl, fun _ _ => rfl, rfl⟩
  · have k1 : ∀ j, j < n → kd n sz tm j (lf n sz tm t j) = kd n sz tm j (lf n sz tm u j) := fun j hj => by
      have e5 : tS sz tm j ≤ tS sz tm n := sumN_mono (by omega)
      rw [kd_ample hm hj (by rw [lf_ample hm h1 j (by omega)]; omega), kd_ample hm hj (by rw [lf_ample hm h2 j (by omega)]; omega)]
    refine ⟨?_, k1, ?_⟩
    · rw [bs_ample hm n 0 (by omega) t (by omega), bs_ample hm n 0 (by omega) u (by omega)]
    · unfold tmS
      exact sumN_cong n (fun i hi => by rw [k1 i hi])
end BP2
