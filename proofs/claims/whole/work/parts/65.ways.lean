/-! ways and bound: numbers of ways -/
theorem L_toInt {n : Nat} (h : n < 2 ^ 63) : (Int64.ofNat n).toInt = (n : Int) := by
  rw [Int64.toInt_ofNat_of_lt h]
theorem L_32 {n : Nat} (h : n < 2 ^ 31) : (nI n).toInt64 = Int64.ofNat n := Int64.toInt_inj.mp (by rw [Int32.toInt_toInt64, nI_toInt h, L_toInt (by omega)])
theorem L_mul (a b : Nat) : Int64.ofNat a * Int64.ofNat b = Int64.ofNat (a * b) := (Int64.ofNat_mul a b).symm
theorem L_div {a b : Nat} (ha : a < 2 ^ 63) (hb : b < 2 ^ 63) : Int64.ofNat a / Int64.ofNat b = Int64.ofNat (a / b) := by
  have h1 : a / b ≤ a := Nat.div_le_self a b
  apply Int64.toInt_inj.mp
  rw [Int64.toInt_div, L_toInt ha, L_toInt hb, L_toInt (by omega), ← Int.ofNat_tdiv]
  generalize a / b = q at h1 ⊢
  exact Int.bmod_eq_of_le (by omega) (by omega)
theorem L_ne0 {n : Nat} (h0 : 0 < n) (h : n < 2 ^ 63) : ¬ Int64.ofNat n = 0 := fun e => by
  have := L_toInt h
  rw [e] at this
  have h2 : (0 : Int64).toInt = 0 := rfl
  omega
def fac : Nat → Nat
  | 0 => 1
  | n + 1 => (n + 1) * fac n
theorem fac_pos : ∀ n, 0 < fac n
  | 0 => Nat.one_pos
  | n + 1 => Nat.mul_pos (by omega) (fac_pos n)
theorem fac_mono {a b : Nat} (h : a ≤ b) : fac a ≤ fac b := by
  induction b with
  | zero => rw [Nat.le_zero.mp h]; exact Nat.le_refl _
  | succ b ih =>
    by_cases e : a = b + 1
    · rw [e]; exact Nat.le_refl _
    · exact Nat.le_trans (ih (by omega)) (Nat.le_mul_of_pos_left _ (by omega))
def bc : Nat → Nat → Nat
  | _, 0 => 1
  | 0, _ + 1 => 0
  | n + 1, k + 1 => bc n k + bc n (k + 1)
theorem bc_0 (n : Nat) : bc n 0 = 1 := by cases n <;> rfl
theorem bc_lt : ∀ n k, n < k → bc n k = 0
  | 0, 0, h => by omega
  | 0, k + 1, _ => rfl
  | n + 1, 0, h => by omega
  | n + 1, k + 1, h => by
    show bc n k + bc n (k + 1) = 0
    rw [bc_lt n k (by omega), bc_lt n (k + 1) (by omega)]
theorem bc_self : ∀ n, bc n n = 1
  | 0 => rfl
  | n + 1 => by
    show bc n n + bc n (n + 1) = 1
    rw [bc_self n, bc_lt n (n + 1) (by omega)]
theorem bc_fac : ∀ s m k, m + k = s → bc (m + k) k * (fac m * fac k) = fac (m + k)
  | 0, m, k, h => by
    rw [show m = 0 by omega, show k = 0 by omega]
    rfl
  | s + 1, 0, k, h => by
    rw [Nat.zero_add, bc_self, Nat.one_mul]
    exact Nat.one_mul _
  | s + 1, m + 1, 0, h => by
    rw [bc_0, Nat.one_mul]
    exact Nat.mul_one _
  | s + 1, m + 1, k + 1, h => by
    have h1 := bc_fac s (m + 1) k (by omega)
    have h2 := bc_fac s m (k + 1) (by omega)
    rw [show m + 1 + k = m + k + 1 by omega] at h1
    rw [show m + (k + 1) = m + k + 1 by omega] at h2
    rw [show m + 1 + (k + 1) = m + k + 1 + 1 by omega]
    show (bc (m + k + 1) k + bc (m + k + 1) (k + 1)) * (fac (m + 1) * fac (k + 1)) = (m + k + 1 + 1) * fac (m + k + 1)
    have e1 : bc (m + k + 1) k * (fac (m + 1) * fac (k + 1)) = (k + 1) * fac (m + k + 1) := by
      rw [← h1, show fac (k + 1) = (k + 1) * fac k from rfl]
      simp only [Nat.mul_assoc, Nat.mul_comm, Nat.mul_left_comm]
    have e2 : bc (m + k + 1) (k + 1) * (fac (m + 1) * fac (k + 1)) = (m + 1) * fac (m + k + 1) := by
      rw [← h2, show fac (m + 1) = (m + 1) * fac m from rfl]
      simp only [Nat.mul_assoc, Nat.mul_comm, Nat.mul_left_comm]
    rw [Nat.add_mul, e1, e2, ← Nat.add_mul]
    congr 1
    omega
/-- a step of the division goes up -/
theorem bc_step (m k : Nat) : bc (m + k + 1) (k + 1) * (k + 1) = bc (m + k) k * (m + k + 1) := by
  have h1 := bc_fac _ m k rfl
  have h2 := bc_fac _ m (k + 1) rfl
  rw [show m + (k + 1) = m + k + 1 by omega] at h2
  have hp : 0 < fac m * fac k := Nat.mul_pos (fac_pos _) (fac_pos _)
  apply Nat.eq_of_mul_eq_mul_right hp
  have e1 : bc (m + k + 1) (k + 1) * (k + 1) * (fac m * fac k) = fac (m + k + 1) := by
    rw [← h2, show fac (k + 1) = (k + 1) * fac k from rfl]
    simp only [Nat.mul_assoc, Nat.mul_comm, Nat.mul_left_comm]
  have e2 : bc (m + k) k * (m + k + 1) * (fac m * fac k) = fac (m + k + 1) := by
    show _ = (m + k + 1) * fac (m + k)
    rw [← h1]
    simp only [Nat.mul_assoc, Nat.mul_comm, Nat.mul_left_comm]
  rw [e1, e2]
theorem fac_20 : fac 20 = 2432902008176640000 := by decide
theorem step_div {W m k : Nat} : W * bc (m + k) k * (m + k + 1) / (k + 1) = W * bc (m + k + 1) (k + 1) := by
  rw [Nat.mul_assoc, ← bc_step, ← Nat.mul_assoc, Nat.mul_div_cancel _ (by omega)]
theorem step_le {W m k : Nat} (hW : W ≤ fac m) : W * bc (m + k) k * (m + k + 1) ≤ fac (m + k + 1) := by
  have h1 := bc_fac _ m k rfl
  have hp := fac_pos k
  show _ ≤ (m + k + 1) * fac (m + k)
  rw [Nat.mul_comm _ (m + k + 1)]
  apply Nat.mul_le_mul_left
  rw [← h1]
  calc W * bc (m + k) k ≤ fac m * bc (m + k) k := Nat.mul_le_mul_right _ hW
    _ ≤ fac m * bc (m + k) k * fac k := Nat.le_mul_of_pos_right _ hp
    _ = _ := by simp only [Nat.mul_assoc, Nat.mul_comm, Nat.mul_left_comm]
/-- the class's and the reference's product -/
def wc (c : Nat → Nat) : Nat → Nat
  | 0 => 1
  | s + 1 => wc c s * bc (sumN c s + c s) (c s)
def wr (c : Nat → Nat) (N : Nat) : Nat → Nat
  | 0 => 1
  | s + 1 => wr c N s * bc (N - sumN c s) (c s)
def pf (c : Nat → Nat) : Nat → Nat
  | 0 => 1
  | s + 1 => pf c s * fac (c s)
theorem pf_pos (c : Nat → Nat) : ∀ s, 0 < pf c s
  | 0 => Nat.one_pos
  | s + 1 => Nat.mul_pos (pf_pos c s) (fac_pos _)
theorem wc_eq (c : Nat → Nat) : ∀ s, wc c s * pf c s = fac (sumN c s)
  | 0 => rfl
  | s + 1 => by
    have ih := wc_eq c s
    have h1 := bc_fac _ (sumN c s) (c s) rfl
    show wc c s * bc (sumN c s + c s) (c s) * (pf c s * fac (c s)) = fac (sumN c s + c s)
    rw [← h1, ← ih]
    simp only [Nat.mul_assoc, Nat.mul_comm, Nat.mul_left_comm]
theorem wr_eq (c : Nat → Nat) (N : Nat) : ∀ s, sumN c s ≤ N → wr c N s * pf c s * fac (N - sumN c s) = fac N
  | 0, _ => by show 1 * 1 * fac (N - 0) = fac N; rw [Nat.one_mul, Nat.sub_zero]
  | s + 1, h => by
    have h0 : sumN c (s + 1) = sumN c s + c s := rfl
    have ih := wr_eq c N s (by omega)
    have h1 := bc_fac _ (N - sumN c (s + 1)) (c s) rfl
    rw [show N - sumN c (s + 1) + c s = N - sumN c s by omega] at h1
    show wr c N s * bc (N - sumN c s) (c s) * (pf c s * fac (c s)) * fac (N - sumN c (s + 1)) = fac N
    rw [← ih, ← h1]
    simp only [Nat.mul_assoc, Nat.mul_comm, Nat.mul_left_comm]
theorem w_same (c : Nat → Nat) {N s : Nat} (h : sumN c s = N) : wr c N s = wc c s := by
  have h1 := wr_eq c N s (by omega)
  have h2 := wc_eq c s
  rw [h, Nat.sub_self, show fac 0 = 1 from rfl, Nat.mul_one] at h1
  rw [h] at h2
  exact Nat.eq_of_mul_eq_mul_right (pf_pos c s) (h1.trans h2.symm)
theorem wc_le (c : Nat → Nat) (s : Nat) : wc c s ≤ fac (sumN c s) := by
  rw [← wc_eq c s]
  exact Nat.le_mul_of_pos_right _ (pf_pos c s)
theorem wr_le (c : Nat → Nat) {N s : Nat} (h : sumN c s ≤ N) : wr c N s ≤ fac N := by
  rw [← wr_eq c N s h, Nat.mul_assoc]
  exact Nat.le_mul_of_pos_right _ (Nat.mul_pos (pf_pos c s) (fac_pos _))
/-- every sign is one of the sixteen -/
theorem cnt_all {f : Nat → Nat} {M : Nat} : ∀ n, (∀ k, k < n → f k < M) → sumN (fun s => cntN (fun k => f k == s) n) M = n
  | 0, _ => by
    have : ∀ M, sumN (fun _ => 0) M = 0 := by
      intro M
      induction M with
      | zero => rfl
      | succ M ih => show sumN (fun _ => 0) M + 0 = 0; rw [ih]
    exact this M
  | n + 1, h => by
    have ih := cnt_all n (fun k hk => h k (by omega))
    have h1 : ∀ M, sumN (fun s => cntN (fun k => f k == s) (n + 1)) M = sumN (fun s => cntN (fun k => f k == s) n) M + bN (decide (f n < M)) := by
      intro M
      induction M with
      | zero => rfl
      | succ M ihM =>
        show sumN (fun s => cntN (fun k => f k == s) (n + 1)) M + (cntN (fun k => f k == M) n + bN (f n == M)) = _
        rw [ihM]
        show _ = sumN (fun s => cntN (fun k => f k == s) n) M + cntN (fun k => f k == M) n + bN (decide (f n < M + 1))
        have : bN (decide (f n < M)) + bN (f n == M) = bN (decide (f n < M + 1)) := by
          by_cases e : f n = M
          · simp [e, bN]
          · by_cases e2 : f n < M
            · rw [beq_eq_false_iff_ne.mpr e, decide_eq_true e2, decide_eq_true (show f n < M + 1 by omega)]; rfl
            · rw [beq_eq_false_iff_ne.mpr e, decide_eq_false e2, decide_eq_false (show ¬ f n < M + 1 by omega)]; rfl
        omega
    rw [h1, ih, decide_eq_true (h n (by omega))]
    rfl
