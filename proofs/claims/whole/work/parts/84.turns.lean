/-! TURNED: what both work out -/
def eN (s : Nat → Nat) (n j : Nat) : Nat := if j < n then s j + 1 else 0
def eI (s : Nat → Nat) (n j : Nat) : Int32 := if j < n then nI (s j) else -1
theorem eI_toInt {s : Nat → Nat} {n : Nat} (hs : ∀ k, k < n → s k < 16) (j : Nat) : (eI s n j).toInt = (eN s n j : Int) - 1 := by
  unfold eI eN
  by_cases c : j < n
  · have := hs j c
    rw [if_pos c, if_pos c, nI_toInt (by omega)]
    omega
  · rw [if_neg c, if_neg c]
    rfl
theorem eI_eq {s : Nat → Nat} {n : Nat} (hs : ∀ k, k < n → s k < 16) (x y : Nat) : eI s n x = eI s n y ↔ eN s n x = eN s n y := by
  rw [← Int32.toInt_inj, eI_toInt hs, eI_toInt hs]
  omega
theorem eI_le {s : Nat → Nat} {n : Nat} (hs : ∀ k, k < n → s k < 16) (x y : Nat) : eI s n x ≤ eI s n y ↔ eN s n x ≤ eN s n y := by
  rw [Int32.le_iff_toInt_le, eI_toInt hs, eI_toInt hs]
  omega
/-- turn x ahead of turn y: k steps from i on -/
def ahd (s : Nat → Nat) (n x y : Nat) : Nat → Nat → Bool
  | 0, _ => false
  | k + 1, i => if eN s n (x + i) = eN s n (y + i) then ahd s n x y k (i + 1) else decide (eN s n (x + i) < eN s n (y + i))
def insF (s : Nat → Nat) (n x : Nat) : Nat → (Nat → Nat) → (Nat → Nat)
  | 0, t => updN t 0 x
  | k + 1, t => if ahd s n x (t k) (n + 1) 0 = true then insF s n x k (updN t (k + 1) (t k)) else updN t (k + 1) x
def srt (s : Nat → Nat) (n : Nat) : Nat → (Nat → Nat)
  | 0 => fun _ => 0
  | i + 1 => insF s n i i (srt s n i)
theorem updN_self {f : Nat → Nat} {k x : Nat} : updN f k x k = x := by unfold updN; rw [if_pos rfl]
theorem updN_ne {f : Nat → Nat} {k x j : Nat} (h : j ≠ k) : updN f k x j = f j := by unfold updN; rw [if_neg h]
theorem insF_lt (s : Nat → Nat) (n x : Nat) : ∀ k t, (∀ j, j ≤ x → j ≠ k → t j < x) → k ≤ x → ∀ j, j ≤ x → insF s n x k t j ≤ x
  | 0, t, h, hk, j, hj => by
    unfold insF
    by_cases c : j = 0
    · rw [c, updN_self]; exact Nat.le_refl _
    · rw [updN_ne c]; exact Nat.le_of_lt (h j hj c)
  | k + 1, t, h, hk, j, hj => by
    unfold insF
    split
    · refine insF_lt s n x k _ (fun q h1 h2 => ?_) (by omega) j hj
      by_cases c : q = k + 1
      · rw [c, updN_self]; exact h k (by omega) (by omega)
      · rw [updN_ne c]; exact h q h1 c
    · by_cases c : j = k + 1
      · rw [c, updN_self]; exact Nat.le_refl _
      · rw [updN_ne c]; exact Nat.le_of_lt (h j hj c)
theorem srt_lt (s : Nat → Nat) (n : Nat) : ∀ i j, j < i → srt s n i j < i
  | 0, j, h => by omega
  | i + 1, j, h => by
    have := insF_lt s n i i (srt s n i) (fun q h1 h2 => srt_lt s n i q (by omega)) (Nat.le_refl _) j (by omega)
    show insF s n i i (srt s n i) j < i + 1
    omega
/-- 0 stands once in t, the place k left out -/
def one0 (t : Nat → Nat) (k x : Nat) : Prop := ∃ j0, (j0 ≤ x ∧ j0 ≠ k ∧ t j0 = 0) ∧ ∀ j, j ≤ x → j ≠ k → t j = 0 → j = j0
theorem insF_one (s : Nat → Nat) (n x : Nat) (hx : 0 < x) : ∀ k t, k ≤ x → one0 t k x → one0 (insF s n x k t) (x + 1) x := by
  have put : ∀ k t, k ≤ x → one0 t k x → one0 (updN t k x) (x + 1) x := fun k t hk ⟨j0, ⟨a, b, c⟩, d⟩ => by
    refine ⟨j0, ⟨a, by omega, by rw [updN_ne b]; exact c⟩, fun j h1 h2 h3 => ?_⟩
    by_cases e : j = k
    · rw [e, updN_self] at h3; omega
    · rw [updN_ne e] at h3; exact d j h1 e h3
  intro k
  induction k with
  | zero => intro t hk h; exact put 0 t hk h
  | succ k ih =>
    intro t hk h
    unfold insF
    split
    · refine ih _ (by omega) ?_
      obtain ⟨j0, ⟨a, b, c⟩, d⟩ := h
      by_cases e : j0 = k
      · refine ⟨k + 1, ⟨hk, by omega, by rw [updN_self, ← e]; exact c⟩, fun j h1 h2 h3 => ?_⟩
        by_cases e2 : j = k + 1
        · exact e2
        · rw [updN_ne e2] at h3
          have := d j h1 e2 h3
          omega
      · refine ⟨j0, ⟨a, e, by rw [updN_ne b]; exact c⟩, fun j h1 h2 h3 => ?_⟩
        by_cases e2 : j = k + 1
        · rw [e2, updN_self] at h3
          have := d k (by omega) (by omega) h3
          omega
        · rw [updN_ne e2] at h3
          exact d j h1 e2 h3
    · exact put (k + 1) t hk h
theorem srt_one (s : Nat → Nat) (n : Nat) : ∀ i, one0 (srt s n (i + 1)) (i + 1) i
  | 0 => ⟨0, ⟨Nat.le_refl _, by omega, rfl⟩, fun j h1 h2 h3 => by omega⟩
  | i + 1 => by
    refine insF_one s n (i + 1) (by omega) (i + 1) _ (Nat.le_refl _) ?_
    obtain ⟨j0, ⟨a, b, c⟩, d⟩ := srt_one s n i
    exact ⟨j0, ⟨by omega, b, c⟩, fun j h1 h2 h3 => d j (by omega) h2 h3⟩
def fnd (F : Nat → Nat) (x : Nat) : Nat → Nat → Nat
  | 0, i => i
  | k + 1, i => if F i = x then i else fnd F x k (i + 1)
theorem fnd_spec (F : Nat → Nat) (x : Nat) : ∀ k i, i ≤ fnd F x k i ∧ fnd F x k i ≤ i + k ∧ (∀ j, i ≤ j → j < fnd F x k i → F j ≠ x) ∧ (fnd F x k i < i + k → F (fnd F x k i) = x)
  | 0, i => ⟨Nat.le_refl _, Nat.le_refl _, fun j h1 h2 => by unfold fnd at h2; omega, fun h => by unfold fnd at h; omega⟩
  | k + 1, i => by
    unfold fnd
    by_cases c : F i = x
    · rw [if_pos c]
      exact ⟨Nat.le_refl _, by omega, fun j h1 h2 => by omega, fun _ => c⟩
    · rw [if_neg c]
      obtain ⟨a1, a2, a3, a4⟩ := fnd_spec F x k (i + 1)
      refine ⟨by omega, by omega, fun j h1 h2 => ?_, fun h => a4 (by omega)⟩
      by_cases e : j = i
      · rw [e]; exact c
      · exact a3 j (by omega) h2
theorem fnd_has {F : Nat → Nat} {x j k : Nat} (hj : j ≤ k) (h : F j = x) : F (fnd F x k 0) = x ∧ fnd F x k 0 ≤ k := by
  obtain ⟨a1, a2, a3, a4⟩ := fnd_spec F x k 0
  refine ⟨?_, by omega⟩
  by_cases c : fnd F x k 0 < 0 + k
  · exact a4 c
  · have e : fnd F x k 0 = k := by omega
    by_cases c2 : j = k
    · rw [e, ← c2]; exact h
    · exact absurd h (a3 j (by omega) (by omega))
/-- the sorted turns; the end's place; the last ones -/
def tT (s : Nat → Nat) (n : Nat) : Nat → Nat := srt s n (n + 1)
def tE (s : Nat → Nat) (n : Nat) : Nat := fnd (tT s n) 0 n 0
def tL (s : Nat → Nat) (n j : Nat) : Nat := s (tT s n (if j < tE s n then j else j + 1) - 1)
def mI (s : Nat → Nat) (n i : Nat) : Nat := if i ≤ tE s n then i else i - 1
theorem tE_spec (s : Nat → Nat) (n : Nat) : tE s n ≤ n ∧ ∀ i, i ≤ n → (tT s n i = 0 ↔ i = tE s n) := by
  obtain ⟨j0, ⟨a, b, c⟩, d⟩ := srt_one s n n
  obtain ⟨e1, e2⟩ := fnd_has (F := tT s n) (x := 0) a c
  refine ⟨e2, fun i hi => ⟨fun h => ?_, fun h => by rw [h]; exact e1⟩⟩
  have h1 := d i hi (by omega) h
  have h2 := d (tE s n) e2 (by have : tE s n ≤ n := e2; omega) e1
  rw [h1, h2]
theorem tT_le (s : Nat → Nat) (n i : Nat) (hi : i ≤ n) : tT s n i ≤ n := by
  have := srt_lt s n (n + 1) i (by omega)
  unfold tT
  omega
theorem mI_step (s : Nat → Nat) (n i : Nat) (h : i ≠ tE s n) : mI s n (i + 1) = mI s n i + 1 ∧ tL s n (mI s n i) = s (tT s n i - 1) := by
  unfold mI tL
  by_cases c : i ≤ tE s n
  · rw [if_pos c, if_pos (show i + 1 ≤ tE s n by omega), if_pos (show i < tE s n by omega)]
    exact ⟨rfl, rfl⟩
  · rw [if_neg c, if_neg (show ¬ i + 1 ≤ tE s n by omega), if_neg (show ¬ i - 1 < tE s n by omega), show i - 1 + 1 = i by omega]
    exact ⟨by omega, rfl⟩
theorem mI_end (s : Nat → Nat) (n : Nat) : mI s n (tE s n + 1) = mI s n (tE s n) := by
  unfold mI
  rw [if_pos (Nat.le_refl _), if_neg (by omega)]
  omega
theorem mI_all (s : Nat → Nat) (n : Nat) : mI s n (n + 1) = n := by
  have := (tE_spec s n).1
  unfold mI
  rw [if_neg (by omega)]
  omega
theorem mI_le (s : Nat → Nat) (n i : Nat) : mI s n i ≤ i := by
  unfold mI
  split <;> omega
theorem tL_lt {s : Nat → Nat} {n j : Nat} (hs : ∀ k, k < n → s k < 16) (hj : j < n) : tL s n j < 16 := by
  have h1 := tE_spec s n
  unfold tL
  have h2 : (if j < tE s n then j else j + 1) ≤ n := by split <;> omega
  have h3 : (if j < tE s n then j else j + 1) ≠ tE s n := by split <;> omega
  have h4 := tT_le s n _ h2
  have h5 : ¬ tT s n (if j < tE s n then j else j + 1) = 0 := fun z => h3 ((h1.2 _ h2).mp z)
  exact hs _ (by omega)
/-! to the front -/
def shF (x : Nat) : Nat → (Nat → Nat) → (Nat → Nat)
  | 0, F => updN F 0 x
  | j + 1, F => shF x j (updN F (j + 1) (F j))
theorem shF_t (x : Nat) : ∀ p F j, shF x p F j = if j = 0 then x else if j ≤ p then F (j - 1) else F j
  | 0, F, j => by
    show (if j = 0 then x else F j) = _
    by_cases c : j = 0
    · rw [if_pos c, if_pos c]
    · rw [if_neg c, if_neg c, if_neg (by omega)]
  | p + 1, F, j => by
    show shF x p _ j = _
    rw [shF_t x p _ j]
    by_cases c : j = 0
    · rw [if_pos c, if_pos c]
    · rw [if_neg c, if_neg c]
      by_cases c2 : j ≤ p
      · rw [if_pos c2, if_pos (by omega), updN_ne (by omega)]
      · rw [if_neg c2]
        by_cases c3 : j = p + 1
        · rw [c3, updN_self, if_pos (Nat.le_refl _)]; rfl
        · rw [updN_ne c3, if_neg (by omega)]
def fOk (F : Nat → Nat) : Prop := (∀ j, j < 16 → F j < 16) ∧ ∀ x, x < 16 → ∃ j, j < 16 ∧ F j = x
theorem fOk_find {F : Nat → Nat} (h : fOk F) {x : Nat} (hx : x < 16) : F (fnd F x 15 0) = x ∧ fnd F x 15 0 ≤ 15 := by
  obtain ⟨j, hj, e⟩ := h.2 x hx
  exact fnd_has (by omega) e
theorem fOk_sh {F : Nat → Nat} (h : fOk F) {x : Nat} (hx : x < 16) : fOk (shF x (fnd F x 15 0) F) := by
  obtain ⟨e1, e2⟩ := fOk_find h hx
  generalize fnd F x 15 0 = p at e1 e2 ⊢
  refine ⟨fun j hj => ?_, fun y hy => ?_⟩
  · rw [shF_t]
    split
    · exact hx
    · split
      · exact h.1 _ (by omega)
      · exact h.1 _ hj
  · obtain ⟨j, hj, e⟩ := h.2 y hy
    by_cases c : y = x
    · exact ⟨0, by omega, by rw [shF_t, if_pos rfl, c]⟩
    · have hjp : j ≠ p := fun z => c (by rw [← e, z, e1])
      by_cases c2 : j < p
      · exact ⟨j + 1, by omega, by rw [shF_t, if_neg (by omega), if_pos (by omega)]; exact e⟩
      · exact ⟨j, hj, by rw [shF_t, if_neg (by omega), if_neg (by omega)]; exact e⟩
def mt (L : Nat → Nat) : Nat → (Nat → Nat) × (Nat → Nat)
  | 0 => (fun j => j, fun _ => 0)
  | i + 1 => (shF (L i) (fnd (mt L i).1 (L i) 15 0) (mt L i).1, updN (mt L i).2 i (fnd (mt L i).1 (L i) 15 0))
theorem mt_ok {L : Nat → Nat} {n : Nat} (hL : ∀ j, j < n → L j < 16) : ∀ i, i ≤ n → fOk (mt L i).1 ∧ ∀ j, j < i → (mt L i).2 j < 16
  | 0, _ => ⟨⟨fun j hj => hj, fun x hx => ⟨x, hx, rfl⟩⟩, fun j hj => by omega⟩
  | i + 1, h => by
    obtain ⟨h1, h2⟩ := mt_ok hL i (by omega)
    refine ⟨fOk_sh h1 (hL i (by omega)), fun j hj => ?_⟩
    show updN (mt L i).2 i _ j < 16
    by_cases c : j = i
    · rw [c, updN_self]
      have := (fOk_find h1 (hL i (by omega))).2
      omega
    · rw [updN_ne c]; exact h2 j (by omega)
theorem mt_st (L : Nat → Nat) (j : Nat) : ∀ k, (mt L (j + 1 + k)).2 j = (mt L (j + 1)).2 j
  | 0 => rfl
  | k + 1 => by
    show updN (mt L (j + 1 + k)).2 (j + 1 + k) _ j = _
    rw [updN_ne (by omega)]
    exact mt_st L j k
def tP (s : Nat → Nat) (n : Nat) : Nat → Nat := (mt (tL s n) n).2
theorem tP_lt {s : Nat → Nat} {n j : Nat} (hs : ∀ k, k < n → s k < 16) (hj : j < n) : tP s n j < 16 := (mt_ok (fun j hj => tL_lt hs hj) n (Nat.le_refl _)).2 j hj
theorem tP_mt {s : Nat → Nat} {n i j : Nat} (hj : j < i) (hi : i ≤ n) : (mt (tL s n) i).2 j = tP s n j := by
  have a := mt_st (tL s n) j (i - (j + 1))
  have b := mt_st (tL s n) j (n - (j + 1))
  rw [show j + 1 + (i - (j + 1)) = i by omega] at a
  rw [show j + 1 + (n - (j + 1)) = n by omega] at b
  unfold tP
  rw [a, b]
