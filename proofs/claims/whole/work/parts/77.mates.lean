/-! MATES: what both work out -/
def allN (p : Nat → Bool) : Nat → Bool
  | 0 => true
  | n + 1 => allN p n && p n
theorem allN_t {p : Nat → Bool} : ∀ n, allN p n = true ↔ ∀ j, j < n → p j = true
  | 0 => ⟨fun _ j hj => by omega, fun _ => rfl⟩
  | n + 1 => by
    simp only [allN, Bool.and_eq_true, allN_t n]
    refine ⟨fun q j hj => ?_, fun q => ⟨fun j hj => q j (by omega), q n (by omega)⟩⟩
    by_cases e : j = n
    · rw [e]; exact q.2
    · exact q.1 j (by omega)
def mtB (s : Nat → Nat) (n p L b : Nat) : Bool := decide (b ≤ p) && (decide (p + L ≤ n) && allN (fun k => s (p + k) == s (p + k - b)) L)
theorem mtB_t {s : Nat → Nat} {n p L b : Nat} : mtB s n p L b = true ↔ b ≤ p ∧ p + L ≤ n ∧ ∀ k, k < L → s (p + k) = s (p + k - b) := by
  unfold mtB
  rw [Bool.and_eq_true, Bool.and_eq_true, decide_eq_true_eq, decide_eq_true_eq, allN_t]
  constructor
  · rintro ⟨h1, h2, h3⟩
    exact ⟨h1, h2, fun k hk => by simpa using h3 k hk⟩
  · rintro ⟨h1, h2, h3⟩
    exact ⟨h1, h2, fun k hk => by simpa using h3 k hk⟩
theorem mtB_f {s : Nat → Nat} {n p L b : Nat} (h : ¬ (b ≤ p ∧ p + L ≤ n ∧ ∀ k, k < L → s (p + k) = s (p + k - b))) : mtB s n p L b = false := by
  cases z : mtB s n p L b with
  | false => rfl
  | true => exact absurd (mtB_t.mp z) h
/-- the nearest mate: the first b, k of them to be looked at; 0 if there is none -/
def nr (s : Nat → Nat) (n p L : Nat) : Nat → Nat → Nat
  | 0, _ => 0
  | k + 1, b => if mtB s n p L b = true then b else nr s n p L k (b + 1)
def near (s : Nat → Nat) (n p L : Nat) : Nat := nr s n p L 15 1
theorem nr_0 {s : Nat → Nat} {n p L : Nat} : ∀ k b, (∀ j, b ≤ j → j < b + k → mtB s n p L j = false) → nr s n p L k b = 0
  | 0, _, _ => rfl
  | k + 1, b, h => by
    unfold nr
    rw [h b (by omega) (by omega), if_neg (by decide)]
    exact nr_0 k (b + 1) (fun j h1 h2 => h j (by omega) (by omega))
theorem nr_le {s : Nat → Nat} {n p L : Nat} : ∀ k b, nr s n p L k b ≤ b + k
  | 0, b => Nat.zero_le _
  | k + 1, b => by
    have := nr_le (s := s) (n := n) (p := p) (L := L) k (b + 1)
    unfold nr
    split <;> omega
theorem nr_pos {s : Nat → Nat} {n p L : Nat} : ∀ k b, 0 < nr s n p L k b → mtB s n p L (nr s n p L k b) = true ∧ b ≤ nr s n p L k b ∧ nr s n p L k b < b + k
  | 0, b, h => by unfold nr at h; omega
  | k + 1, b, h => by
    unfold nr at h ⊢
    by_cases c : mtB s n p L b = true
    · rw [if_pos c] at h ⊢
      exact ⟨c, Nat.le_refl _, by omega⟩
    · rw [if_neg c] at h ⊢
      obtain ⟨h1, h2, h3⟩ := nr_pos k (b + 1) h
      exact ⟨h1, by omega, by omega⟩
theorem near_le {s : Nat → Nat} {n p L : Nat} : near s n p L ≤ 15 := by
  by_cases h : 0 < near s n p L
  · have := (nr_pos 15 1 h).2.2
    unfold near
    omega
  · omega
theorem near_in {s : Nat → Nat} {n p L : Nat} (h : 0 < near s n p L) : p + L ≤ n := (mtB_t.mp (nr_pos 15 1 h).1).2.1
/-- the least price from place p on and the first piece, by the least prices Lf behind; lengths 2 .. j + 1 have been tried -/
def ch (s : Nat → Nat) (n p : Nat) (Lf : Nat → Nat) : Nat → Nat × Nat
  | 0 => (5 + Lf (p + 1), 0)
  | j + 1 => if 0 < near s n p (j + 2) ∧ 11 + Lf (p + (j + 2)) < (ch s n p Lf j).1 then (11 + Lf (p + (j + 2)), 16 * (j + 2) + near s n p (j + 2)) else ch s n p Lf j
def tb (s : Nat → Nat) (n : Nat) : Nat → Nat → Nat × Nat
  | 0, _ => (0, 0)
  | k + 1, q => if q = n - (k + 1) then ch s n q (fun r => (tb s n k r).1) 8 else tb s n k q
theorem ch_le (s : Nat → Nat) (n p : Nat) (Lf : Nat → Nat) : ∀ j, (ch s n p Lf j).1 ≤ 5 + Lf (p + 1) ∧ (ch s n p Lf j).2 ≤ 16 * (j + 1) + 15
  | 0 => ⟨Nat.le_refl _, Nat.zero_le _⟩
  | j + 1 => by
    have h1 := ch_le s n p Lf j
    have h2 := near_le (s := s) (n := n) (p := p) (L := j + 2)
    unfold ch
    by_cases c : 0 < near s n p (j + 2) ∧ 11 + Lf (p + (j + 2)) < (ch s n p Lf j).1
    · rw [if_pos c]
      exact ⟨by show 11 + Lf (p + (j + 2)) ≤ _; omega, by show 16 * (j + 2) + near s n p (j + 2) ≤ _; omega⟩
    · rw [if_neg c]
      exact ⟨h1.1, by omega⟩
theorem tb_le (s : Nat → Nat) (n : Nat) : ∀ k q, (tb s n k q).1 ≤ 5 * k ∧ (tb s n k q).2 ≤ 159
  | 0, q => ⟨Nat.le_refl _, Nat.zero_le _⟩
  | k + 1, q => by
    unfold tb
    by_cases c : q = n - (k + 1)
    · rw [if_pos c]
      have h1 := ch_le s n q (fun r => (tb s n k r).1) 8
      have h2 := (tb_le s n k (q + 1)).1
      exact ⟨by omega, by omega⟩
    · rw [if_neg c]
      have := tb_le s n k q
      exact ⟨by omega, this.2⟩
theorem tb_same (s : Nat → Nat) (n k q : Nat) (h : q ≠ n - (k + 1)) : tb s n (k + 1) q = tb s n k q := if_neg h
theorem tb_new (s : Nat → Nat) (n k : Nat) : tb s n (k + 1) (n - (k + 1)) = ch s n (n - (k + 1)) (fun r => (tb s n k r).1) 8 := if_pos rfl
/-- which piece was taken: it is the first of its price -/
theorem ch_spec (s : Nat → Nat) (n p : Nat) (Lf : Nat → Nat) : ∀ j, ((ch s n p Lf j).2 = 0 ∧ (ch s n p Lf j).1 = 5 + Lf (p + 1) ∧ ∀ L, 2 ≤ L → L < j + 2 → 0 < near s n p L → (ch s n p Lf j).1 ≤ 11 + Lf (p + L)) ∨ (∃ L, (2 ≤ L ∧ L < j + 2) ∧ 0 < near s n p L ∧ (ch s n p Lf j).2 = 16 * L + near s n p L ∧ (ch s n p Lf j).1 = 11 + Lf (p + L) ∧ (ch s n p Lf j).1 < 5 + Lf (p + 1) ∧ (∀ M, 2 ≤ M → M < L → 0 < near s n p M → (ch s n p Lf j).1 < 11 + Lf (p + M)) ∧ ∀ M, 2 ≤ M → M < j + 2 → 0 < near s n p M → (ch s n p Lf j).1 ≤ 11 + Lf (p + M))
  | 0 => Or.inl ⟨rfl, rfl, fun L h1 h2 => by omega⟩
  | j + 1 => by
    have ih := ch_spec s n p Lf j
    have e : ch s n p Lf (j + 1) = if 0 < near s n p (j + 2) ∧ 11 + Lf (p + (j + 2)) < (ch s n p Lf j).1 then (11 + Lf (p + (j + 2)), 16 * (j + 2) + near s n p (j + 2)) else ch s n p Lf j := rfl
    rw [e]
    by_cases c : 0 < near s n p (j + 2) ∧ 11 + Lf (p + (j + 2)) < (ch s n p Lf j).1
    · rw [if_pos c]
      right
      refine ⟨j + 2, ⟨by omega, by omega⟩, c.1, rfl, rfl, ?_, ?_, ?_⟩
      · have := (ch_le s n p Lf j).1
        show 11 + Lf (p + (j + 2)) < _
        omega
      · intro M h1 h2 h3
        show 11 + Lf (p + (j + 2)) < _
        rcases ih with ⟨-, -, i3⟩ | ⟨L, -, -, -, -, -, -, i7⟩
        · have := i3 M h1 (by omega) h3; omega
        · have := i7 M h1 (by omega) h3; omega
      · intro M h1 h2 h3
        show 11 + Lf (p + (j + 2)) ≤ _
        by_cases z : M = j + 2
        · rw [z]; omega
        · rcases ih with ⟨-, -, i3⟩ | ⟨L, -, -, -, -, -, -, i7⟩
          · have := i3 M h1 (by omega) h3; omega
          · have := i7 M h1 (by omega) h3; omega
    · rw [if_neg c]
      rcases ih with ⟨i1, i2, i3⟩ | ⟨L, i1, i2, i3, i4, i5, i6, i7⟩
      · left
        refine ⟨i1, i2, fun M h1 h2 h3 => ?_⟩
        by_cases z : M = j + 2
        · subst z
          have : ¬ 11 + Lf (p + (j + 2)) < (ch s n p Lf j).1 := fun q => c ⟨h3, q⟩
          omega
        · exact i3 M h1 (by omega) h3
      · right
        refine ⟨L, ⟨i1.1, by omega⟩, i2, i3, i4, i5, i6, fun M h1 h2 h3 => ?_⟩
        by_cases z : M = j + 2
        · subst z
          have : ¬ 11 + Lf (p + (j + 2)) < (ch s n p Lf j).1 := fun q => c ⟨h3, q⟩
          omega
        · exact i7 M h1 (by omega) h3
/-- the pieces from place p on -/
def stp (x : Nat) : Nat := if x = 0 then 1 else x / 16
def pw (T : Nat → Nat) (n : Nat) : Nat → Nat → Nat → (Nat → Nat) → Nat × (Nat → Nat)
  | 0, _, m, f => (m, f)
  | q + 1, p, m, f => if n ≤ p then (m, f) else pw T n q (p + stp (T p)) (m + 1) (updN f m (T p))
def cutT (s : Nat → Nat) (n p : Nat) : Nat := (tb s n n p).2
def cutP (s : Nat → Nat) (n : Nat) : Nat × (Nat → Nat) := pw (cutT s n) n (n + 1) 0 0 (fun _ => 0)
theorem stp_pos {s : Nat → Nat} {n p : Nat} (hp : p < n) : 1 ≤ stp (cutT s n p) ∧ (cutT s n p = 0 ∨ 2 ≤ cutT s n p / 16) := by
  have key : ∀ k, k ≤ n → n - k ≤ p → (tb s n k p).2 = 0 ∨ 2 ≤ (tb s n k p).2 / 16 := by
    intro k
    induction k with
    | zero => intro _ _; left; rfl
    | succ k ih =>
      intro h1 h2
      by_cases e : p = n - (k + 1)
      · rw [e, tb_new]
        rcases ch_spec s n (n - (k + 1)) (fun r => (tb s n k r).1) 8 with ⟨i1, -, -⟩ | ⟨L, i1, i2, i3, -⟩
        · left; exact i1
        · right
          rw [i3]
          have := near_le (s := s) (n := n) (p := n - (k + 1)) (L := L)
          omega
      · rw [tb_same s n k p e]
        exact ih (by omega) (by omega)
  have h := key n (Nat.le_refl _) (by omega)
  unfold stp cutT
  refine ⟨?_, h⟩
  split <;> omega
theorem pw_le {T : Nat → Nat} {n : Nat} (hT : ∀ p, p < n → 1 ≤ stp (T p)) : ∀ q p m f, m ≤ p → m ≤ n → (pw T n q p m f).1 ≤ n
  | 0, p, m, f, h1, h2 => h2
  | q + 1, p, m, f, h1, h2 => by
    unfold pw
    split
    · exact h2
    · next c =>
      have := hT p (by omega)
      exact pw_le hT q _ _ _ (by omega) (by omega)
theorem cut_le {s : Nat → Nat} {n : Nat} : (cutP s n).1 ≤ n := pw_le (fun p hp => (stp_pos hp).1) _ _ _ _ (by omega) (by omega)
theorem nI_div {a b : Nat} (ha : a < 2 ^ 31) (hb : b < 2 ^ 31) : nI a / nI b = nI (a / b) := by
  have h1 : a / b ≤ a := Nat.div_le_self a b
  apply Int32.toInt_inj.mp
  rw [Int32.toInt_div, nI_toInt ha, nI_toInt hb, nI_toInt (by omega), ← Int.ofNat_tdiv]
  generalize a / b = q at h1 ⊢
  exact Int.bmod_eq_of_le (by omega) (by omega)
