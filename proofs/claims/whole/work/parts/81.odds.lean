/-! ODDS: what both work out -/
abbrev oS : Type := Nat × Nat × Nat × Nat × (Nat → Nat)
def emF (x : Nat) : Nat → Nat → (Nat → Nat) → (Nat → Nat)
  | 0, _, g => g
  | k + 1, m, g => emF x k (m + 1) (updN g m x)
def wd : Nat → Nat → Nat → Nat → Nat → (Nat → Nat) → oS
  | 0, lo, hi, po, m, g => (lo, hi, po, m, g)
  | k + 1, lo, hi, po, m, g =>
    if hi < 32768 then wd k (2 * lo) (2 * hi + 1) 0 (m + 1 + po) (emF 1 po (m + 1) (updN g m 0))
    else if 32768 ≤ lo then wd k (2 * (lo - 32768)) (2 * (hi - 32768) + 1) 0 (m + 1 + po) (emF 0 po (m + 1) (updN g m 1))
    else if 16384 ≤ lo ∧ hi < 49152 then wd k (2 * (lo - 16384)) (2 * (hi - 16384) + 1) (po + 1) m g
    else (lo, hi, po, m, g)
def wdOk (s : oS) (B : Nat) : Prop := s.1 ≤ s.2.1 ∧ s.2.1 < 65536 ∧ 16386 ≤ s.2.1 - s.1 + 1 ∧ s.2.2.2.1 + s.2.2.1 ≤ B
theorem pow_step (a k : Nat) : a * 2 ^ (k + 1) = (2 * a) * 2 ^ k := by
  rw [Nat.pow_succ, Nat.mul_comm (2 ^ k) 2, ← Nat.mul_assoc, Nat.mul_comm a 2]
theorem wd_ok : ∀ (k lo hi po m : Nat) (g : Nat → Nat), lo ≤ hi → hi < 65536 → 65536 < (hi - lo + 1) * 2 ^ k → wdOk (wd k lo hi po m g) (m + po + k)
  | 0, lo, hi, po, m, g, h1, h2, h3 => by
    rw [Nat.pow_zero, Nat.mul_one] at h3
    omega
  | k + 1, lo, hi, po, m, g, h1, h2, h3 => by
    rw [pow_step] at h3
    unfold wd
    by_cases c1 : hi < 32768
    · rw [if_pos c1]
      have := wd_ok k (2 * lo) (2 * hi + 1) 0 (m + 1 + po) (emF 1 po (m + 1) (updN g m 0)) (by omega) (by omega) (by rw [show 2 * hi + 1 - 2 * lo + 1 = 2 * (hi - lo + 1) by omega]; exact h3)
      exact ⟨this.1, this.2.1, this.2.2.1, by have := this.2.2.2; omega⟩
    rw [if_neg c1]
    by_cases c2 : 32768 ≤ lo
    · rw [if_pos c2]
      have := wd_ok k (2 * (lo - 32768)) (2 * (hi - 32768) + 1) 0 (m + 1 + po) (emF 0 po (m + 1) (updN g m 1)) (by omega) (by omega) (by rw [show 2 * (hi - 32768) + 1 - 2 * (lo - 32768) + 1 = 2 * (hi - lo + 1) by omega]; exact h3)
      exact ⟨this.1, this.2.1, this.2.2.1, by have := this.2.2.2; omega⟩
    rw [if_neg c2]
    by_cases c3 : 16384 ≤ lo ∧ hi < 49152
    · rw [if_pos c3]
      have := wd_ok k (2 * (lo - 16384)) (2 * (hi - 16384) + 1) (po + 1) m g (by omega) (by omega) (by rw [show 2 * (hi - 16384) + 1 - 2 * (lo - 16384) + 1 = 2 * (hi - lo + 1) by omega]; exact h3)
      exact ⟨this.1, this.2.1, this.2.2.1, by have := this.2.2.2; omega⟩
    rw [if_neg c3]
    exact ⟨h1, h2, by show 16386 ≤ hi - lo + 1; omega, by show m + po ≤ _; omega⟩
def oP (s : Nat → Nat) (i j : Nat) : Bool := s j == s (i - 1)
def odK (s : Nat → Nat) (i x k : Nat) : Nat := 1 + cntN (fun j => oP s i j && (s (j + 1) == x)) k
def od (s : Nat → Nat) (i x : Nat) : Nat := odK s i x (i - 1)
def oT (s : Nat → Nat) (i : Nat) : Nat := 16 + cntN (oP s i) (i - 1)
def oC (s : Nat → Nat) (i : Nat) : Nat := s i + cntN (fun j => oP s i j && decide (s (j + 1) < s i)) (i - 1)
theorem cnt_split (p : Nat → Bool) (g : Nat → Nat) (y : Nat) : ∀ k, cntN (fun j => p j && decide (g j < y + 1)) k = cntN (fun j => p j && decide (g j < y)) k + cntN (fun j => p j && (g j == y)) k
  | 0 => rfl
  | k + 1 => by
    simp only [cntN]
    rw [cnt_split p g y k]
    have : bN (p k && decide (g k < y + 1)) = bN (p k && decide (g k < y)) + bN (p k && (g k == y)) := by
      cases p k with
      | false => rfl
      | true =>
        simp only [Bool.true_and]
        rcases Nat.lt_trichotomy (g k) y with h | h | h
        · rw [decide_eq_true (show g k < y + 1 by omega), decide_eq_true h, show (g k == y) = false by simp; omega]; rfl
        · rw [decide_eq_true (show g k < y + 1 by omega), decide_eq_false (show ¬ g k < y by omega), show (g k == y) = true by simpa using h]; rfl
        · rw [decide_eq_false (show ¬ g k < y + 1 by omega), decide_eq_false (show ¬ g k < y by omega), show (g k == y) = false by simp; omega]; rfl
    omega
theorem cnt_mono {p q : Nat → Bool} : ∀ k, (∀ j, j < k → p j = true → q j = true) → cntN p k ≤ cntN q k
  | 0, _ => Nat.le_refl _
  | k + 1, h => by
    have := cnt_mono k (fun j hj => h j (by omega))
    simp only [cntN]
    have h2 := h k (by omega)
    cases hp : p k with
    | false => simp [bN]; omega
    | true => rw [h2 hp]; omega
theorem od_sum (p : Nat → Bool) (g : Nat → Nat) (k : Nat) : ∀ y, sumN (fun x => 1 + cntN (fun j => p j && (g j == x)) k) y = y + cntN (fun j => p j && decide (g j < y)) k
  | 0 => by
    rw [(cnt0 k).mpr (fun j _ => by simp)]
    rfl
  | y + 1 => by
    rw [cnt_split p g y k]
    simp only [sumN]
    rw [od_sum p g k y]
    omega
theorem od_sumC (s : Nat → Nat) (i : Nat) : sumN (od s i) (s i) = oC s i := od_sum (oP s i) (fun j => s (j + 1)) (i - 1) (s i)
theorem od_sumT {s : Nat → Nat} {i n : Nat} (hs : ∀ k, k < n → s k < 16) (hi : i < n) : sumN (od s i) 16 = oT s i := by
  have e : sumN (od s i) 16 = 16 + cntN (fun j => oP s i j && decide (s (j + 1) < 16)) (i - 1) := od_sum (oP s i) (fun j => s (j + 1)) (i - 1) 16
  rw [e]
  unfold oT
  have h1 : cntN (fun j => oP s i j && decide (s (j + 1) < 16)) (i - 1) ≤ cntN (oP s i) (i - 1) := cnt_mono _ (fun j _ h => by
    rw [Bool.and_eq_true] at h
    exact h.1)
  have h2 : cntN (oP s i) (i - 1) ≤ cntN (fun j => oP s i j && decide (s (j + 1) < 16)) (i - 1) := cnt_mono _ (fun j hj h => by
    rw [Bool.and_eq_true]
    exact ⟨h, decide_eq_true (hs _ (by omega))⟩)
  omega
theorem oCT {s : Nat → Nat} {i n : Nat} (hs : ∀ k, k < n → s k < 16) (hi : i < n) : oC s i + od s i (s i) ≤ oT s i := by
  have h1 := cnt_split (oP s i) (fun j => s (j + 1)) (s i) (i - 1)
  have h2 : cntN (fun j => oP s i j && decide (s (j + 1) < s i + 1)) (i - 1) ≤ cntN (oP s i) (i - 1) := cnt_mono _ (fun j _ h => by
    rw [Bool.and_eq_true] at h
    exact h.1)
  have h3 := hs i hi
  unfold oC od odK oT
  omega
def nwL (s : Nat → Nat) (i lo hi : Nat) : Nat := lo + (hi - lo + 1) * oC s i / oT s i
def nwH (s : Nat → Nat) (i lo hi : Nat) : Nat := lo + (hi - lo + 1) * (oC s i + od s i (s i)) / oT s i - 1
theorem oT_le (s : Nat → Nat) (i : Nat) : 16 ≤ oT s i ∧ oT s i ≤ 16 + (i - 1) := by
  have := cntN_le (oP s i) (i - 1)
  unfold oT
  omega
theorem od_pos (s : Nat → Nat) (i x : Nat) : 1 ≤ od s i x := by unfold od odK; omega
theorem div_facts {r c o t : Nat} (ht : 16 ≤ t) (ht2 : t ≤ 39) (hr : 16386 ≤ r) (ho : 1 ≤ o) (hco : c + o ≤ t) : r * c / t + 257 ≤ r * (c + o) / t ∧ r * (c + o) / t ≤ r := by
  constructor
  · rw [Nat.le_div_iff_mul_le (by omega), Nat.add_mul, Nat.mul_add]
    have h1 : r * c / t * t ≤ r * c := Nat.div_mul_le_self _ _
    have h2 : r * 1 ≤ r * o := Nat.mul_le_mul_left r ho
    have h3 : 257 * t ≤ 257 * 39 := Nat.mul_le_mul_left 257 ht2
    omega
  · apply Nat.div_le_of_le_mul
    rw [Nat.mul_comm t r]
    exact Nat.mul_le_mul_left r hco
theorem nw_ok {s : Nat → Nat} {i n lo hi : Nat} (hs : ∀ k, k < n → s k < 16) (hn : n ≤ 24) (hi' : i < n) (h1 : lo ≤ hi) (h2 : hi < 65536) (h3 : 16386 ≤ hi - lo + 1) : nwL s i lo hi ≤ nwH s i lo hi ∧ nwH s i lo hi < 65536 ∧ 65536 < (nwH s i lo hi - nwL s i lo hi + 1) * 2 ^ 8 ∧ 1 ≤ lo + (hi - lo + 1) * (oC s i + od s i (s i)) / oT s i := by
  have t1 := oT_le s i
  have hd := div_facts (r := hi - lo + 1) (c := oC s i) (o := od s i (s i)) t1.1 (by omega) h3 (od_pos s i _) (oCT hs hi')
  unfold nwL nwH
  generalize (hi - lo + 1) * (oC s i + od s i (s i)) / oT s i = y at hd ⊢
  generalize (hi - lo + 1) * oC s i / oT s i = x at hd ⊢
  refine ⟨by omega, by omega, ?_, by omega⟩
  rw [show (2 : Nat) ^ 8 = 256 from rfl]
  omega
def cd (s : Nat → Nat) : Nat → oS
  | 0 => (0, 65535, 0, 0, fun _ => 0)
  | i + 1 => wd 8 (nwL s i (cd s i).1 (cd s i).2.1) (nwH s i (cd s i).1 (cd s i).2.1) (cd s i).2.2.1 (cd s i).2.2.2.1 (cd s i).2.2.2.2
theorem cd_ok {s : Nat → Nat} {n : Nat} (hs : ∀ k, k < n → s k < 16) (hn : n ≤ 24) : ∀ i, i ≤ n → wdOk (cd s i) (8 * i)
  | 0, _ => ⟨by show 0 ≤ 65535; decide, by show 65535 < 65536; decide, by show 16386 ≤ 65535 - 0 + 1; decide, by show 0 + 0 ≤ 8 * 0; decide⟩
  | i + 1, h => by
    obtain ⟨h1, h2, h3, h4⟩ := cd_ok hs hn i (by omega)
    obtain ⟨g1, g2, g3, -⟩ := nw_ok hs hn (show i < n by omega) h1 h2 h3
    have := wd_ok 8 _ _ (cd s i).2.2.1 (cd s i).2.2.2.1 (cd s i).2.2.2.2 g1 g2 g3
    refine ⟨this.1, this.2.1, this.2.2.1, ?_⟩
    have h5 := this.2.2.2
    show (wd 8 _ _ _ _ _).2.2.2.1 + (wd 8 _ _ _ _ _).2.2.1 ≤ _
    omega
def lastB (lo : Nat) : Nat := if lo < 16384 then 0 else 1
def cdN (s : Nat → Nat) (n : Nat) : Nat := (cd s n).2.2.2.1 + 1 + ((cd s n).2.2.1 + 1)
def cdG (s : Nat → Nat) (n : Nat) : Nat → Nat := emF (1 - lastB (cd s n).1) ((cd s n).2.2.1 + 1) ((cd s n).2.2.2.1 + 1) (updN (cd s n).2.2.2.2 (cd s n).2.2.2.1 (lastB (cd s n).1))
theorem cdN_le {s : Nat → Nat} {n : Nat} (hs : ∀ k, k < n → s k < 16) (hn : n ≤ 24) : cdN s n ≤ 194 := by
  have := (cd_ok hs hn n (Nat.le_refl _)).2.2.2
  unfold cdN
  omega
theorem nI_neg {a b : Nat} (h : b ≤ a) : nI a + -(nI b) = nI (a - b) := by rw [← Int32.sub_eq_add_neg, nI_subN h]
