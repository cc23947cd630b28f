def am_op_feed (Inv : am_H → Prop) : Prop := ∀ (h : am_H) (a0 : Int32) (a1 : Int64), Inv h → ∃ (r : Int32) (h1 : am_H) (h2 : am_H), F_X8_feed 1 a0 a1 h = some (r, h1) ∧ F_X9_feed 88 a0 a1 h1 = some (r, h2) ∧ Inv h2
def am_op_make (Inv : am_H → Prop) : Prop := ∀ (h : am_H), Inv h → ∃ (r : Int32) (h1 : am_H) (h2 : am_H), F_X8_make 1 h = some (r, h1) ∧ F_X9_make 88 h1 = some (r, h2) ∧ Inv h2
def am_op_change (Inv : am_H → Prop) : Prop := ∀ (h : am_H) (a0 : Int32) (a1 : Int32) (a2 : Int32), Inv h → ∃ (r : Int32) (h1 : am_H) (h2 : am_H), F_X8_change 1 a0 a1 a2 h = some (r, h1) ∧ F_X9_change 88 a0 a1 a2 h1 = some (r, h2) ∧ Inv h2
def am_op_put (Inv : am_H → Prop) : Prop := ∀ (h : am_H) (a0 : Int32) (a1 : Int32) (a2 : Int32), Inv h → ∃ (r : Int32) (h1 : am_H) (h2 : am_H), F_X8_put 1 a0 a1 a2 h = some (r, h1) ∧ F_X9_put 88 a0 a1 a2 h1 = some (r, h2) ∧ Inv h2
def am_op_strike (Inv : am_H → Prop) : Prop := ∀ (h : am_H) (a0 : Int32) (a1 : Int32), Inv h → ∃ (r : Int32) (h1 : am_H) (h2 : am_H), F_X8_strike 1 a0 a1 h = some (r, h1) ∧ F_X9_strike 88 a0 a1 h1 = some (r, h2) ∧ Inv h2
def am_op_about (Inv : am_H → Prop) : Prop := ∀ (h : am_H) (a0 : Int32) (a1 : Int32), Inv h → ∃ (r : Int32), F_X8_about 1 a0 a1 h = some r ∧ F_X9_about 88 a0 a1 h = some r
def am_op_block (Inv : am_H → Prop) : Prop := ∀ (h : am_H) (a0 : Int32) (a1 : Int32), Inv h → ∃ (r : Int32), F_X8_block 1 a0 a1 h = some r ∧ F_X9_block 88 a0 a1 h = some r
def am_op_open (Inv : am_H → Prop) : Prop := ∀ (h : am_H) (a0 : Int32) (a1 : Int32), Inv h → ∃ (r : Int32) (h2 : am_H), F_X8_open 1 a0 a1 h = some r ∧ F_X9_open 88 a0 a1 h = some (r, h2) ∧ Inv h2
def am_op_told (Inv : am_H → Prop) : Prop := ∀ (h : am_H) (a0 : Int32) (a1 : Int32), Inv h → ∃ (r : Int32), F_X8_told 1 a0 a1 h = some r ∧ F_X9_told 88 a0 a1 h = some r
def am_op_count (Inv : am_H → Prop) : Prop := ∀ (h : am_H) (a0 : Int32), Inv h → ∃ (r : Int32), F_X8_count 1 a0 h = some r ∧ F_X9_count 88 a0 h = some r
def am_op_share (Inv : am_H → Prop) : Prop := ∀ (h : am_H) (a0 : Int32) (a1 : Int32), Inv h → ∃ (r : Int32), F_X8_share 1 a0 a1 h = some r ∧ F_X9_share 88 a0 a1 h = some r
def am_op_size (Inv : am_H → Prop) : Prop := ∀ (h : am_H) (a0 : Int32) (a1 : Int32), Inv h → ∃ (r : Int32) (h1 : am_H) (h2 : am_H), F_X8_size 1 a0 a1 h = some (r, h1) ∧ F_X9_size 88 a0 a1 h1 = some (r, h2) ∧ Inv h2
def am_op_time (Inv : am_H → Prop) : Prop := ∀ (h : am_H) (a0 : Int32) (a1 : Int32), Inv h → ∃ (r : Int32) (h1 : am_H) (h2 : am_H), F_X8_time 1 a0 a1 h = some (r, h1) ∧ F_X9_time 88 a0 a1 h1 = some (r, h2) ∧ Inv h2
def am_op_cut (Inv : am_H → Prop) : Prop := ∀ (h : am_H) (a0 : Int32) (a1 : Int32), Inv h → ∃ (r : Int32) (h1 : am_H) (h2 : am_H), F_X8_cut 1 a0 a1 h = some (r, h1) ∧ F_X9_cut 88 a0 a1 h1 = some (r, h2) ∧ Inv h2
def am_op_rule (Inv : am_H → Prop) : Prop := ∀ (h : am_H) (a0 : Int32) (a1 : Int32) (a2 : Int32), Inv h → ∃ (r : Int32) (h1 : am_H) (h2 : am_H), F_X8_rule 1 a0 a1 a2 h = some (r, h1) ∧ F_X9_rule 88 a0 a1 a2 h1 = some (r, h2) ∧ Inv h2
def am_op_bit (Inv : am_H → Prop) : Prop := ∀ (h : am_H) (a0 : Int32) (a1 : Int32), Inv h → ∃ (r : Int32) (h1 : am_H) (h2 : am_H), F_X8_bit 1 a0 a1 h = some (r, h1) ∧ F_X9_bit 88 a0 a1 h1 = some (r, h2) ∧ Inv h2
def am_op_turned (Inv : am_H → Prop) : Prop := ∀ (h : am_H) (a0 : Int32) (a1 : Int32) (a2 : Int32), Inv h → ∃ (r : Int32) (h1 : am_H) (h2 : am_H), F_X8_turned 1 a0 a1 a2 h = some (r, h1) ∧ F_X9_turned 88 a0 a1 a2 h1 = some (r, h2) ∧ Inv h2
def am_op_best (Inv : am_H → Prop) : Prop := ∀ (h : am_H) (a0 : Int32) (a1 : Int32) (a2 : Int32), Inv h → ∃ (r : Int32) (h1 : am_H) (h2 : am_H), F_X8_best 1 a0 a1 a2 h = some (r, h1) ∧ F_X9_best 88 a0 a1 a2 h1 = some (r, h2) ∧ Inv h2
def am_op_sign (Inv : am_H → Prop) : Prop := ∀ (h : am_H) (a0 : Int32), Inv h → ∃ (r : Int32) (h1 : am_H) (h2 : am_H), F_X8_sign 1 a0 h = some (r, h1) ∧ F_X9_sign_ 88 a0 h1 = some (r, h2) ∧ Inv h2
def am_op_clear (Inv : am_H → Prop) : Prop := ∀ (h : am_H), Inv h → ∃ (r : Int32) (h1 : am_H) (h2 : am_H), F_X8_clear 1 h = some (r, h1) ∧ F_X9_clear 88 h1 = some (r, h2) ∧ Inv h2
def am_op_seek (Inv : am_H → Prop) : Prop := ∀ (h : am_H) (a0 : Int32) (a1 : Int32) (a2 : Int32), Inv h → ∃ (r : Int32) (h1 : am_H) (h2 : am_H), F_X8_seek 1 a0 a1 a2 h = some (r, h1) ∧ F_X9_seek 88 a0 a1 a2 h1 = some (r, h2) ∧ Inv h2
def am_op_span (Inv : am_H → Prop) : Prop := ∀ (h : am_H) (a0 : Int32) (a1 : Int32) (a2 : Int32) (a3 : Int32), Inv h → ∃ (r : Int32) (h1 : am_H) (h2 : am_H), F_X8_span 1 a0 a1 a2 a3 h = some (r, h1) ∧ F_X9_span 88 a0 a1 a2 a3 h1 = some (r, h2) ∧ Inv h2
def am_op_tear (Inv : am_H → Prop) : Prop := ∀ (h : am_H) (a0 : Int32), Inv h → ∃ (r : Int32) (h1 : am_H) (h2 : am_H), F_X8_tear 1 a0 h = some (r, h1) ∧ F_X9_tear 88 a0 h1 = some (r, h2) ∧ Inv h2
def am_op_sums (Inv : am_H → Prop) : Prop := ∀ (h : am_H) (a0 : Int32) (a1 : Int32) (a2 : Int32), Inv h → ∃ (r : Int32), F_X8_sums 1 a0 a1 a2 h = some r ∧ F_X9_sums 88 a0 a1 a2 h = some r
def am_op_restore (Inv : am_H → Prop) : Prop := ∀ (h : am_H) (a0 : Int32), Inv h → ∃ (r : Int32) (h1 : am_H) (h2 : am_H), F_X8_restore 1 a0 h = some (r, h1) ∧ F_X9_restore 88 a0 h1 = some (r, h2) ∧ Inv h2
def am_op_send (Inv : am_H → Prop) : Prop := ∀ (h : am_H) (a0 : Int32) (a1 : Int32) (a2 : Int32), Inv h → ∃ (r : Int32) (h1 : am_H) (h2 : am_H), F_X8_send 1 a0 a1 a2 h = some (r, h1) ∧ F_X9_send 88 a0 a1 a2 h1 = some (r, h2) ∧ Inv h2
def am_op_ways (Inv : am_H → Prop) : Prop := ∀ (h : am_H) (a0 : Int32), Inv h → ∃ (r : Int64), F_X8_ways 1 a0 h = some r ∧ F_X9_ways 88 a0 h = some r
def am_op_bound (Inv : am_H → Prop) : Prop := ∀ (h : am_H) (a0 : Int32), Inv h → ∃ (r : Int32), F_X8_bound 1 a0 h = some r ∧ F_X9_bound 88 a0 h = some r
def am_op_entropy (Inv : am_H → Prop) : Prop := ∀ (h : am_H) (a0 : Int32) (a1 : Int32), Inv h → ∃ (r : Int32), F_X8_entropy 1 a0 a1 h = some r ∧ F_X9_entropy 88 a0 a1 h = some r
def am_Ops (Inv : am_H → Prop) : Prop := am_op_feed Inv ∧ am_op_make Inv ∧ am_op_change Inv ∧ am_op_put Inv ∧ am_op_strike Inv ∧ am_op_about Inv ∧ am_op_block Inv ∧ am_op_open Inv ∧ am_op_told Inv ∧ am_op_count Inv ∧ am_op_share Inv ∧ am_op_size Inv ∧ am_op_time Inv ∧ am_op_cut Inv ∧ am_op_rule Inv ∧ am_op_bit Inv ∧ am_op_turned Inv ∧ am_op_best Inv ∧ am_op_sign Inv ∧ am_op_clear Inv ∧ am_op_seek Inv ∧ am_op_span Inv ∧ am_op_tear Inv ∧ am_op_sums Inv ∧ am_op_restore Inv ∧ am_op_send Inv ∧ am_op_ways Inv ∧ am_op_bound Inv ∧ am_op_entropy Inv
theorem am_cmp_self (r : Int64) : lg_cmp r r = 0 := by simp [lg_cmp]
theorem am_sl_at {L : Nat} {xs : Nat → Int32} {k : Nat} (hk : k < L) (hL : L ≤ 2560) : am_sl L xs (nI k) = some (xs k) := by
  have h1 : (nI k).toNatClampNeg = k := nI_clamp (by omega)
  unfold am_sl am_ix
  rw [h1, if_pos ⟨nI_pos' (by omega), hk⟩]
  rfl
theorem am_exit {L k : Nat} (hL : L ≤ 2560) (hk : k ≤ 2565) : (Int32.ofNat L - 5 < nI k) ↔ L < k + 5 := by
  have h0 : Int32.ofNat L = nI L := rfl
  rw [h0, Int32.lt_iff_toInt_lt, Int32.toInt_sub, nI_toInt (n := k) (by omega), nI_toInt (n := L) (by omega)]
  have h5 : (5 : Int32).toInt = 5 := by decide
  rw [h5]
  have : ((L : Int) - 5).bmod (2 ^ 32) = (L : Int) - 5 := Int.bmod_eq_of_le (by omega) (by omega)
  rw [this]
  omega
theorem am_loop {Inv : am_H → Prop} (hops : am_Ops Inv) {L : Nat} {xs : Nat → Int32} (hL : L ≤ 2560) : ∀ (n k : Nat) (h : am_H), Inv h → 5 * k ≤ L → L < 5 * k + 5 * n → ∃ hf, F_L_law_18 L xs n 1 88 (nI (5 * k)) h = some (1, hf) ∧ Inv hf
  | 0, k, h, hi, hk, hn => by
    exfalso
    omega
  | n + 1, k, h, hi, hk, hn => by
    obtain ⟨o_feed, o_make, o_change, o_put, o_strike, o_about, o_block, o_open, o_told, o_count, o_share, o_size, o_time, o_cut, o_rule, o_bit, o_turned, o_best, o_sign, o_clear, o_seek, o_span, o_tear, o_sums, o_restore, o_send, o_ways, o_bound, o_entropy⟩ := id hops
    rw [F_L_law_18]
    by_cases hx : Int32.ofNat L - 5 < nI (5 * k)
    · rw [if_pos hx]
      exact ⟨h, rfl, hi⟩
    rw [if_neg hx]
    have hx2 : 5 * k + 5 ≤ L := by
      have : ¬ L < 5 * k + 5 := fun q => hx ((am_exit (k := 5 * k) hL (by omega)).mpr q)
      omega
    have s0 : am_sl L xs (nI (5 * k)) = some (xs (5 * k)) := am_sl_at (by omega) hL
    have s1 : am_sl L xs (nI (5 * k) + 1) = some (xs (5 * k + 1)) := by
      have := am_sl_at (xs := xs) (show 5 * k + 1 < L by omega) hL
      rw [← nI_add] at this
      exact this
    have s2 : am_sl L xs (nI (5 * k) + 2) = some (xs (5 * k + 2)) := by
      have := am_sl_at (xs := xs) (show 5 * k + 2 < L by omega) hL
      rw [← nI_add] at this
      exact this
    have s3 : am_sl L xs (nI (5 * k) + 3) = some (xs (5 * k + 3)) := by
      have := am_sl_at (xs := xs) (show 5 * k + 3 < L by omega) hL
      rw [← nI_add] at this
      exact this
    have s4 : am_sl L xs (nI (5 * k) + 4) = some (xs (5 * k + 4)) := by
      have := am_sl_at (xs := xs) (show 5 * k + 4 < L by omega) hL
      rw [← nI_add] at this
      exact this
    have nx : nI (5 * k) + 5 = nI (5 * (k + 1)) := by
      have := nI_add (5 * k) 5
      rw [show 5 * (k + 1) = 5 * k + 5 by omega, ← this]
      rfl
    have hk2 : 5 * (k + 1) ≤ L := by omega
    have hn2 : L < 5 * (k + 1) + 5 * n := by omega
    rw [s0, Option.bind_some]
    generalize xs (5 * k) &&& 31 = op
    by_cases c0 : op = 0
    · rw [if_pos c0]
      obtain ⟨r, h1, h2, e1, e2, hi2⟩ := o_feed h (xs (5 * k + 1)) (((xs (5 * k + 2)).toInt64 <<< (Int32.toInt64 32 &&& 63)) ||| ((xs (5 * k + 3)).toInt64 &&& 4294967295)) hi
      obtain ⟨hf, ef, hif⟩ := am_loop hops hL n (k + 1) h2 hi2 hk2 hn2
      refine ⟨hf, ?_, hif⟩
      simp only [s1, s2, s3, Option.bind_some, e1, e2, if_true, am_cmp_self, F_L_law_1152, nx]
      exact ef
    rw [if_neg c0]
    by_cases c1 : op = 1
    · rw [if_pos c1]
      obtain ⟨r, h1, h2, e1, e2, hi2⟩ := o_make h  hi
      obtain ⟨hf, ef, hif⟩ := am_loop hops hL n (k + 1) h2 hi2 hk2 hn2
      refine ⟨hf, ?_, hif⟩
      simp only [Option.bind_some, e1, e2, if_true, am_cmp_self, F_L_law_1152, nx]
      exact ef
    rw [if_neg c1]
    by_cases c2 : op = 2
    · rw [if_pos c2]
      obtain ⟨r, h1, h2, e1, e2, hi2⟩ := o_change h (xs (5 * k + 1)) (xs (5 * k + 2)) (xs (5 * k + 3)) hi
      obtain ⟨hf, ef, hif⟩ := am_loop hops hL n (k + 1) h2 hi2 hk2 hn2
      refine ⟨hf, ?_, hif⟩
      simp only [s1, s2, s3, Option.bind_some, e1, e2, if_true, am_cmp_self, F_L_law_1152, nx]
      exact ef
    rw [if_neg c2]
    by_cases c3 : op = 3
    · rw [if_pos c3]
      obtain ⟨r, h1, h2, e1, e2, hi2⟩ := o_put h (xs (5 * k + 1)) (xs (5 * k + 2)) (xs (5 * k + 3)) hi
      obtain ⟨hf, ef, hif⟩ := am_loop hops hL n (k + 1) h2 hi2 hk2 hn2
      refine ⟨hf, ?_, hif⟩
      simp only [s1, s2, s3, Option.bind_some, e1, e2, if_true, am_cmp_self, F_L_law_1152, nx]
      exact ef
    rw [if_neg c3]
    by_cases c4 : op = 4
    · rw [if_pos c4]
      obtain ⟨r, h1, h2, e1, e2, hi2⟩ := o_strike h (xs (5 * k + 1)) (xs (5 * k + 2)) hi
      obtain ⟨hf, ef, hif⟩ := am_loop hops hL n (k + 1) h2 hi2 hk2 hn2
      refine ⟨hf, ?_, hif⟩
      simp only [s1, s2, Option.bind_some, e1, e2, if_true, am_cmp_self, F_L_law_1152, nx]
      exact ef
    rw [if_neg c4]
    by_cases c5 : op = 5
    · rw [if_pos c5]
      obtain ⟨r, e1, e2⟩ := o_about h (xs (5 * k + 1)) (xs (5 * k + 2)) hi
      obtain ⟨hf, ef, hif⟩ := am_loop hops hL n (k + 1) h hi hk2 hn2
      refine ⟨hf, ?_, hif⟩
      simp only [s1, s2, Option.bind_some, e1, e2, if_true, am_cmp_self, F_L_law_1152, nx]
      exact ef
    rw [if_neg c5]
    by_cases c6 : op = 6
    · rw [if_pos c6]
      obtain ⟨r, e1, e2⟩ := o_block h (xs (5 * k + 1)) (xs (5 * k + 2)) hi
      obtain ⟨hf, ef, hif⟩ := am_loop hops hL n (k + 1) h hi hk2 hn2
      refine ⟨hf, ?_, hif⟩
      simp only [s1, s2, Option.bind_some, e1, e2, if_true, am_cmp_self, F_L_law_1152, nx]
      exact ef
    rw [if_neg c6]
    by_cases c7 : op = 7
    · rw [if_pos c7]
      obtain ⟨r, h2, e1, e2, hi2⟩ := o_open h (xs (5 * k + 1)) (xs (5 * k + 2)) hi
      obtain ⟨hf, ef, hif⟩ := am_loop hops hL n (k + 1) h2 hi2 hk2 hn2
      refine ⟨hf, ?_, hif⟩
      simp only [s1, s2, Option.bind_some, e1, e2, if_true, am_cmp_self, F_L_law_1152, nx]
      exact ef
    rw [if_neg c7]
    by_cases c8 : op = 8
    · rw [if_pos c8]
      obtain ⟨r, e1, e2⟩ := o_told h (xs (5 * k + 1)) (xs (5 * k + 2)) hi
      obtain ⟨hf, ef, hif⟩ := am_loop hops hL n (k + 1) h hi hk2 hn2
      refine ⟨hf, ?_, hif⟩
      simp only [s1, s2, Option.bind_some, e1, e2, if_true, am_cmp_self, F_L_law_1152, nx]
      exact ef
    rw [if_neg c8]
    by_cases c9 : op = 9
    · rw [if_pos c9]
      obtain ⟨r, e1, e2⟩ := o_count h (xs (5 * k + 1)) hi
      obtain ⟨hf, ef, hif⟩ := am_loop hops hL n (k + 1) h hi hk2 hn2
      refine ⟨hf, ?_, hif⟩
      simp only [s1, Option.bind_some, e1, e2, if_true, am_cmp_self, F_L_law_1152, nx]
      exact ef
    rw [if_neg c9]
    by_cases c10 : op = 10
    · rw [if_pos c10]
      obtain ⟨r, e1, e2⟩ := o_share h (xs (5 * k + 1)) (xs (5 * k + 2)) hi
      obtain ⟨hf, ef, hif⟩ := am_loop hops hL n (k + 1) h hi hk2 hn2
      refine ⟨hf, ?_, hif⟩
      simp only [s1, s2, Option.bind_some, e1, e2, if_true, am_cmp_self, F_L_law_1152, nx]
      exact ef
    rw [if_neg c10]
    by_cases c11 : op = 11
    · rw [if_pos c11]
      obtain ⟨r, h1, h2, e1, e2, hi2⟩ := o_size h (xs (5 * k + 1)) (xs (5 * k + 2)) hi
      obtain ⟨hf, ef, hif⟩ := am_loop hops hL n (k + 1) h2 hi2 hk2 hn2
      refine ⟨hf, ?_, hif⟩
      simp only [s1, s2, Option.bind_some, e1, e2, if_true, am_cmp_self, F_L_law_1152, nx]
      exact ef
    rw [if_neg c11]
    by_cases c12 : op = 12
    · rw [if_pos c12]
      obtain ⟨r, h1, h2, e1, e2, hi2⟩ := o_time h (xs (5 * k + 1)) (xs (5 * k + 2)) hi
      obtain ⟨hf, ef, hif⟩ := am_loop hops hL n (k + 1) h2 hi2 hk2 hn2
      refine ⟨hf, ?_, hif⟩
      simp only [s1, s2, Option.bind_some, e1, e2, if_true, am_cmp_self, F_L_law_1152, nx]
      exact ef
    rw [if_neg c12]
    by_cases c13 : op = 13
    · rw [if_pos c13]
      obtain ⟨r, h1, h2, e1, e2, hi2⟩ := o_cut h (xs (5 * k + 1)) (xs (5 * k + 2)) hi
      obtain ⟨hf, ef, hif⟩ := am_loop hops hL n (k + 1) h2 hi2 hk2 hn2
      refine ⟨hf, ?_, hif⟩
      simp only [s1, s2, Option.bind_some, e1, e2, if_true, am_cmp_self, F_L_law_1152, nx]
      exact ef
    rw [if_neg c13]
    by_cases c14 : op = 14
    · rw [if_pos c14]
      obtain ⟨r, h1, h2, e1, e2, hi2⟩ := o_rule h (xs (5 * k + 1)) (xs (5 * k + 2)) (xs (5 * k + 3)) hi
      obtain ⟨hf, ef, hif⟩ := am_loop hops hL n (k + 1) h2 hi2 hk2 hn2
      refine ⟨hf, ?_, hif⟩
      simp only [s1, s2, s3, Option.bind_some, e1, e2, if_true, am_cmp_self, F_L_law_1152, nx]
      exact ef
    rw [if_neg c14]
    by_cases c15 : op = 15
    · rw [if_pos c15]
      obtain ⟨r, h1, h2, e1, e2, hi2⟩ := o_bit h (xs (5 * k + 1)) (xs (5 * k + 2)) hi
      obtain ⟨hf, ef, hif⟩ := am_loop hops hL n (k + 1) h2 hi2 hk2 hn2
      refine ⟨hf, ?_, hif⟩
      simp only [s1, s2, Option.bind_some, e1, e2, if_true, am_cmp_self, F_L_law_1152, nx]
      exact ef
    rw [if_neg c15]
    by_cases c16 : op = 16
    · rw [if_pos c16]
      obtain ⟨r, h1, h2, e1, e2, hi2⟩ := o_turned h (xs (5 * k + 1)) (xs (5 * k + 2)) (xs (5 * k + 3)) hi
      obtain ⟨hf, ef, hif⟩ := am_loop hops hL n (k + 1) h2 hi2 hk2 hn2
      refine ⟨hf, ?_, hif⟩
      simp only [s1, s2, s3, Option.bind_some, e1, e2, if_true, am_cmp_self, F_L_law_1152, nx]
      exact ef
    rw [if_neg c16]
    by_cases c17 : op = 17
    · rw [if_pos c17]
      obtain ⟨r, h1, h2, e1, e2, hi2⟩ := o_best h (xs (5 * k + 1)) (xs (5 * k + 2)) (xs (5 * k + 3)) hi
      obtain ⟨hf, ef, hif⟩ := am_loop hops hL n (k + 1) h2 hi2 hk2 hn2
      refine ⟨hf, ?_, hif⟩
      simp only [s1, s2, s3, Option.bind_some, e1, e2, if_true, am_cmp_self, F_L_law_1152, nx]
      exact ef
    rw [if_neg c17]
    by_cases c18 : op = 18
    · rw [if_pos c18]
      obtain ⟨r, h1, h2, e1, e2, hi2⟩ := o_sign h (xs (5 * k + 1)) hi
      obtain ⟨hf, ef, hif⟩ := am_loop hops hL n (k + 1) h2 hi2 hk2 hn2
      refine ⟨hf, ?_, hif⟩
      simp only [s1, Option.bind_some, e1, e2, if_true, am_cmp_self, F_L_law_1152, nx]
      exact ef
    rw [if_neg c18]
    by_cases c19 : op = 19
    · rw [if_pos c19]
      obtain ⟨r, h1, h2, e1, e2, hi2⟩ := o_clear h  hi
      obtain ⟨hf, ef, hif⟩ := am_loop hops hL n (k + 1) h2 hi2 hk2 hn2
      refine ⟨hf, ?_, hif⟩
      simp only [Option.bind_some, e1, e2, if_true, am_cmp_self, F_L_law_1152, nx]
      exact ef
    rw [if_neg c19]
    by_cases c20 : op = 20
    · rw [if_pos c20]
      obtain ⟨r, h1, h2, e1, e2, hi2⟩ := o_seek h (xs (5 * k + 1)) (xs (5 * k + 2)) (xs (5 * k + 3)) hi
      obtain ⟨hf, ef, hif⟩ := am_loop hops hL n (k + 1) h2 hi2 hk2 hn2
      refine ⟨hf, ?_, hif⟩
      simp only [s1, s2, s3, Option.bind_some, e1, e2, if_true, am_cmp_self, F_L_law_1152, nx]
      exact ef
    rw [if_neg c20]
    by_cases c21 : op = 21
    · rw [if_pos c21]
      obtain ⟨r, h1, h2, e1, e2, hi2⟩ := o_span h (xs (5 * k + 1)) (xs (5 * k + 2)) (xs (5 * k + 3)) (xs (5 * k + 4)) hi
      obtain ⟨hf, ef, hif⟩ := am_loop hops hL n (k + 1) h2 hi2 hk2 hn2
      refine ⟨hf, ?_, hif⟩
      simp only [s1, s2, s3, s4, Option.bind_some, e1, e2, if_true, am_cmp_self, F_L_law_1152, nx]
      exact ef
    rw [if_neg c21]
    by_cases c22 : op = 22
    · rw [if_pos c22]
      obtain ⟨r, h1, h2, e1, e2, hi2⟩ := o_tear h (xs (5 * k + 1)) hi
      obtain ⟨hf, ef, hif⟩ := am_loop hops hL n (k + 1) h2 hi2 hk2 hn2
      refine ⟨hf, ?_, hif⟩
      simp only [s1, Option.bind_some, e1, e2, if_true, am_cmp_self, F_L_law_1152, nx]
      exact ef
    rw [if_neg c22]
    by_cases c23 : op = 23
    · rw [if_pos c23]
      obtain ⟨r, e1, e2⟩ := o_sums h (xs (5 * k + 1)) (xs (5 * k + 2)) (xs (5 * k + 3)) hi
      obtain ⟨hf, ef, hif⟩ := am_loop hops hL n (k + 1) h hi hk2 hn2
      refine ⟨hf, ?_, hif⟩
      simp only [s1, s2, s3, Option.bind_some, e1, e2, if_true, am_cmp_self, F_L_law_1152, nx]
      exact ef
    rw [if_neg c23]
    by_cases c24 : op = 24
    · rw [if_pos c24]
      obtain ⟨r, h1, h2, e1, e2, hi2⟩ := o_restore h (xs (5 * k + 1)) hi
      obtain ⟨hf, ef, hif⟩ := am_loop hops hL n (k + 1) h2 hi2 hk2 hn2
      refine ⟨hf, ?_, hif⟩
      simp only [s1, Option.bind_some, e1, e2, if_true, am_cmp_self, F_L_law_1152, nx]
      exact ef
    rw [if_neg c24]
    by_cases c25 : op = 25
    · rw [if_pos c25]
      obtain ⟨r, h1, h2, e1, e2, hi2⟩ := o_send h (xs (5 * k + 1)) (xs (5 * k + 2)) (xs (5 * k + 3)) hi
      obtain ⟨hf, ef, hif⟩ := am_loop hops hL n (k + 1) h2 hi2 hk2 hn2
      refine ⟨hf, ?_, hif⟩
      simp only [s1, s2, s3, Option.bind_some, e1, e2, if_true, am_cmp_self, F_L_law_1152, nx]
      exact ef
    rw [if_neg c25]
    by_cases c26 : op = 26
    · rw [if_pos c26]
      obtain ⟨r, e1, e2⟩ := o_ways h (xs (5 * k + 1)) hi
      obtain ⟨hf, ef, hif⟩ := am_loop hops hL n (k + 1) h hi hk2 hn2
      refine ⟨hf, ?_, hif⟩
      simp only [s1, Option.bind_some, e1, e2, if_true, am_cmp_self, F_L_law_1152, nx]
      exact ef
    rw [if_neg c26]
    by_cases c27 : op = 27
    · rw [if_pos c27]
      obtain ⟨r, e1, e2⟩ := o_bound h (xs (5 * k + 1)) hi
      obtain ⟨hf, ef, hif⟩ := am_loop hops hL n (k + 1) h hi hk2 hn2
      refine ⟨hf, ?_, hif⟩
      simp only [s1, Option.bind_some, e1, e2, if_true, am_cmp_self, F_L_law_1152, nx]
      exact ef
    rw [if_neg c27]
    by_cases c28 : op = 28
    · rw [if_pos c28]
      obtain ⟨r, e1, e2⟩ := o_entropy h (xs (5 * k + 1)) (xs (5 * k + 2)) hi
      obtain ⟨hf, ef, hif⟩ := am_loop hops hL n (k + 1) h hi hk2 hn2
      refine ⟨hf, ?_, hif⟩
      simp only [s1, s2, Option.bind_some, e1, e2, if_true, am_cmp_self, F_L_law_1152, nx]
      exact ef
    rw [if_neg c28]
    obtain ⟨hf, ef, hif⟩ := am_loop hops hL n (k + 1) h hi hk2 hn2
    refine ⟨hf, ?_, hif⟩
    simp only [F_L_law_1152, nx]
    exact ef
