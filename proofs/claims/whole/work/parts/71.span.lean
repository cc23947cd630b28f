/-! span -/
def mn (g : Nat → Nat) : Nat → Nat
  | 0 => 16
  | n + 1 => if g n < mn g n then g n else mn g n
def mx (g : Nat → Nat) : Nat → Nat
  | 0 => 0
  | n + 1 => if mx g n < g n then g n else mx g n
/-- how often at most, and which: the first such -/
def mo (c : Nat → Nat) : Nat → Nat × Nat
  | 0 => (0, 0)
  | s + 1 => if c s ≤ (mo c s).1 then mo c s else (c s, s)
theorem mn_le (g : Nat → Nat) : ∀ n, mn g n ≤ 16
  | 0 => Nat.le_refl _
  | n + 1 => by
    have := mn_le g n
    unfold mn
    split <;> omega
theorem mx_le (g : Nat → Nat) {c : Nat} : ∀ n, (∀ i, i < n → g i ≤ c) → mx g n ≤ c
  | 0, _ => Nat.zero_le _
  | n + 1, h => by
    have := mx_le g n (fun i hi => h i (by omega))
    have := h n (by omega)
    unfold mx
    split <;> omega
theorem mo_ge (c : Nat → Nat) : ∀ n s, s < n → c s ≤ (mo c n).1
  | 0, s, h => by omega
  | n + 1, s, h => by
    unfold mo
    by_cases e : c n ≤ (mo c n).1
    · rw [if_pos e]
      by_cases z : s = n
      · rw [z]; exact e
      · exact mo_ge c n s (by omega)
    · rw [if_neg e]
      by_cases z : s = n
      · rw [z]; exact Nat.le_refl _
      · have := mo_ge c n s (by omega)
        show c s ≤ c n
        omega
theorem mo_le (c : Nat → Nat) {M : Nat} : ∀ n, (∀ s, s < n → c s ≤ M) → (mo c n).1 ≤ M ∧ (mo c n).2 ≤ n
  | 0, _ => ⟨Nat.zero_le _, Nat.le_refl _⟩
  | n + 1, h => by
    have h1 := mo_le c n (fun i hi => h i (by omega))
    have h2 := h n (by omega)
    unfold mo
    by_cases e : c n ≤ (mo c n).1
    · rw [if_pos e]; omega
    · rw [if_neg e]; exact ⟨h2, by show n ≤ n + 1; omega⟩
section RW3
variable {h : am_H} {r cap n a m : Nat} {f : Nat → Int32} {g : Nat → Nat}
theorem row_sum (R : RowAt h r cap n f) (hn : a + m ≤ n) (hf : ∀ j, j < m → f (a + j) = nI (g j)) : F_X4_sum r (nI a) (nI (a + m)) h = some (nI (sumN g m)) := by
  have h3 := R.2
  have loop : ∀ (q k j : Nat), j + k = m → k < q → F_X4_sum_5 q r (nI (a + m)) (nI (sumN g j)) (nI (a + j)) h = some (nI (sumN g m)) := by
    intro q
    induction q with
    | zero => intro k j h1 h2; omega
    | succ q ih =>
      intro k j h1 h2
      rw [F_X4_sum_5]
      by_cases c : j = m
      · rw [if_pos (nI_le (by omega) (by omega)), c]
      · rw [if_neg (nI_ge (by omega) (by omega)), row_at R (by omega), Option.bind_some, hf j (by omega), nI_add, nI_1]
        exact ih (k - 1) (j + 1) (by omega) (by omega)
  unfold F_X4_sum F_X4_sum_b
  rw [R.1.1, Option.bind_some]
  exact loop am_F m 0 (by omega) (by show _ < 100000; omega)
theorem row_times2 (R : RowAt h r cap n f) {s : Nat} (hn : a + m ≤ n) (hf : ∀ j, j < m → f (a + j) = nI (g j)) (hg : ∀ j, j < m → g j < 2 ^ 31) (hs : s < 2 ^ 31) : F_X4_timesWithin r (nI s) (nI a) (nI (a + m)) h = some (nI (cntN (fun j => g j == s) m)) := by
  have h3 := R.2
  have loop : ∀ (q k j : Nat), j + k = m → k < q → F_X4_timesWithin_6 q r (nI s) (nI (a + m)) (nI (cntN (fun j => g j == s) j)) (nI (a + j)) h = some (nI (cntN (fun j => g j == s) m)) := by
    intro q
    induction q with
    | zero => intro k j h1 h2; omega
    | succ q ih =>
      intro k j h1 h2
      rw [F_X4_timesWithin_6]
      by_cases c : j = m
      · rw [if_pos (nI_le (by omega) (by omega)), c]
      · have hj : j < m := by omega
        have := ih (k - 1) (j + 1) (by omega) (by omega)
        rw [show cntN (fun j => g j == s) (j + 1) = cntN (fun j => g j == s) j + bN (g j == s) from rfl] at this
        rw [if_neg (nI_ge (by omega) (by omega)), row_at R (by omega), Option.bind_some, hf j hj]
        simp only [F_X4_timesWithin_25, nI_1]
        by_cases e : g j = s
        · rw [show (g j == s) = true by simpa using e] at this
          rw [if_pos (by rw [e])]
          exact this
        · rw [show (g j == s) = false by simpa using e] at this
          rw [if_neg (fun z => e ((nI_eq (hg j hj) hs).mp z))]
          exact this
  unfold F_X4_timesWithin F_X4_timesWithin_b
  rw [R.1.1, Option.bind_some]
  exact loop am_F m 0 (by omega) (by show _ < 100000; omega)
theorem row_least (R : RowAt h r cap n f) (hn : a + m ≤ n) (h0 : 0 < m) (hf : ∀ j, j < m → f (a + j) = nI (g j)) (hg : ∀ j, j < m → g j < 16) : F_X4_least r (nI a) (nI (a + m)) h = some (nI (mn g m)) := by
  have h3 := R.2
  have loop : ∀ (q k j : Nat), j + k = m → k < q → F_X4_least_9 q r (nI (a + m)) (nI (mn g j)) (nI (a + j)) h = some (nI (mn g m)) := by
    intro q
    induction q with
    | zero => intro k j h1 h2; omega
    | succ q ih =>
      intro k j h1 h2
      rw [F_X4_least_9]
      by_cases c : j = m
      · rw [if_pos (nI_le (by omega) (by omega)), c]
      · have hj : j < m := by omega
        have h5 := mn_le g j
        have h6 := hg j hj
        rw [if_neg (nI_ge (by omega) (by omega)), row_at R (by omega), Option.bind_some, hf j hj, jmin (by omega) (by omega), Option.bind_some, nI_1]
        exact ih (k - 1) (j + 1) (by omega) (by omega)
  have h6 := hg 0 h0
  have e1 : mn g 1 = g 0 := by show (if g 0 < 16 then g 0 else 16) = g 0; rw [if_pos h6]
  have h7 := hf 0 h0
  rw [Nat.add_zero] at h7
  unfold F_X4_least F_X4_least_b
  rw [R.1.1, Option.bind_some, row_at R (show a < n by omega), Option.bind_some, h7, show am_F = 99999 + 1 from rfl, F_X4_least_9, if_neg (nI_ge (by omega) (by omega)), row_at R (show a < n by omega), Option.bind_some, h7, jmin (by omega) (by omega), Option.bind_some, nI_1, if_neg (Nat.lt_irrefl _), ← e1]
  exact loop 99999 (m - 1) 1 (by omega) (by omega)
theorem row_greatest (R : RowAt h r cap n f) (hn : a + m ≤ n) (h0 : 0 < m) (hf : ∀ j, j < m → f (a + j) = nI (g j)) (hg : ∀ j, j < m → g j < 16) : F_X4_greatest r (nI a) (nI (a + m)) h = some (nI (mx g m)) := by
  have h3 := R.2
  have loop : ∀ (q k j : Nat), j + k = m → k < q → F_X4_greatest_9 q r (nI (a + m)) (nI (mx g j)) (nI (a + j)) h = some (nI (mx g m)) := by
    intro q
    induction q with
    | zero => intro k j h1 h2; omega
    | succ q ih =>
      intro k j h1 h2
      rw [F_X4_greatest_9]
      by_cases c : j = m
      · rw [if_pos (nI_le (by omega) (by omega)), c]
      · have hj : j < m := by omega
        have h5 := mx_le g (c := 16) j (fun i hi => by have := hg i (by omega); omega)
        have h6 := hg j hj
        rw [if_neg (nI_ge (by omega) (by omega)), row_at R (by omega), Option.bind_some, hf j hj, jmax (by omega) (by omega), Option.bind_some, nI_1]
        exact ih (k - 1) (j + 1) (by omega) (by omega)
  have h6 := hg 0 h0
  have e1 : mx g 1 = g 0 := by show (if 0 < g 0 then g 0 else 0) = g 0; split <;> omega
  have h7 := hf 0 h0
  rw [Nat.add_zero] at h7
  unfold F_X4_greatest F_X4_greatest_b
  rw [R.1.1, Option.bind_some, row_at R (show a < n by omega), Option.bind_some, h7, show am_F = 99999 + 1 from rfl, F_X4_greatest_9, if_neg (nI_ge (by omega) (by omega)), row_at R (show a < n by omega), Option.bind_some, h7, jmax (by omega) (by omega), Option.bind_some, nI_1, if_neg (Nat.lt_irrefl _), ← e1]
  exact loop 99999 (m - 1) 1 (by omega) (by omega)
end RW3
/-- how often sign s stands in the m places from a on -/
def cAt (S : sS) (v a m s : Nat) : Nat := cntN (fun j => sat S v (a + j) == s) m
def spanV (S : sS) (v a m x : Nat) : Nat := if x = 0 then sumN (fun j => sat S v (a + j)) m else if x = 1 then mn (fun j => sat S v (a + j)) m else if x = 2 then mx (fun j => sat S v (a + j)) m else (mo (cAt S v a m) 16).2
def sp_span (S : sS) (v a b x : Int32) : Int32 := if vd (nv S) v ∧ 0 ≤ a.toInt ∧ a.toInt < b.toInt ∧ b.toInt ≤ plc S v.toNatClampNeg then (if 0 ≤ x.toInt ∧ x.toInt ≤ 3 then (if anyN (fun j => tat S v.toNatClampNeg (a.toNatClampNeg + j)) (b.toNatClampNeg - a.toNatClampNeg) = true then -100005 else nI (spanV S v.toNatClampNeg a.toNatClampNeg (b.toNatClampNeg - a.toNatClampNeg) x.toNatClampNeg)) else -100002) else -100001
section SP
variable {Z : sZ} {S : sS} {pb pv : Nat → Nat} {h : am_H}
theorem mostOften_loop (w : WF S) (C : RX Z S pb pv h) {v a m : Nat} (hv : v < nv S) {f : Nat → Int32} (r : RowAt h 12 192 (plc S v) f) (hm : a + m ≤ plc S v) (hf : ∀ j, j < m → f (a + j) = nI (sat S v (a + j))) : ∀ (q k s : Nat), s + k = 16 → k < q → F_X8_mostOften_8 q 1 (nI a) (nI (a + m)) (nI (mo (cAt S v a m) s).1) (nI (mo (cAt S v a m) s).2) (nI s) h = some (nI (mo (cAt S v a m) 16).2)
  | 0, k, s, h1, h2 => by omega
  | q + 1, 0, s, h1, h2 => by
    rw [F_X8_mostOften_8, if_pos (show (16 : Int32) ≤ nI s from nI_le (a := 16) (by omega) (by omega)), show s = 16 by omega]
  | q + 1, k + 1, s, h1, h2 => by
    have hl := plc_le w hv
    have ih := mostOften_loop w C hv r hm hf q k (s + 1) (by omega) (by omega)
    have hc : cAt S v a m s ≤ m := cntN_le _ _
    have hc2 := (mo_le (cAt S v a m) (M := m) s (fun s _ => cntN_le _ _)).1
    rw [F_X8_mostOften_8, if_neg (show ¬ (16 : Int32) ≤ nI s from nI_ge (b := 16) (by omega) (by omega)), C.gr (k := 9) (x := 12) (fun _ => rfl), Option.bind_some, row_times2 r (g := fun j => sat S v (a + j)) hm hf (fun j hj => by have := sat_lt w hv (show a + j < plc S v by omega); show sat S v (a + j) < 2 ^ 31; omega) (by omega), Option.bind_some]
    unfold F_X8_mostOften_41
    rw [nI_1]
    show (if nI (cAt S v a m s) ≤ _ then _ else _) = _
    unfold mo at ih
    by_cases c : cAt S v a m s ≤ (mo (cAt S v a m) s).1
    · rw [if_pos c] at ih
      rw [if_pos (nI_le c (by omega))]
      exact ih
    · rw [if_neg c] at ih
      rw [if_neg (nI_ge (by omega) (by omega))]
      exact ih
/-- blocks of the span, places of the span: the same ones are torn -/
theorem torn_span {v a b : Nat} (w : WF S) (hv : v < nv S) (hab : a < b) (hb : b ≤ plc S v) : anyN (fun j => tat S v (a + j)) (b - a) = true ↔ ∃ i, (loc S v a).1 ≤ i ∧ i ≤ (loc S v (b - 1)).1 ∧ tn S (rw_ S v i) = true := by
  constructor
  · intro z
    obtain ⟨j, j1, j2⟩ := anyN_t.mp z
    exact ⟨(loc S v (a + j)).1, loc_mono (by omega) (by omega), loc_mono (by omega) (by omega), j2⟩
  · rintro ⟨i, i1, i2, i3⟩
    by_cases e : i = (loc S v a).1
    · exact anyN_t.mpr ⟨0, by omega, by rw [e] at i3; exact i3⟩
    · obtain ⟨l1, l2, l3⟩ := loc_spec (show a < plc S v by omega)
      obtain ⟨m1, m2, m3⟩ := loc_spec (show b - 1 < plc S v by omega)
      have hi : i < rl S v := by omega
      have hbl := (w.2.2.1.2 _ ((w.2.2.2.2 v hv).1.2 i hi)).1
      obtain ⟨u1, u2⟩ := loc_uniq (k := 0) hi (by omega)
      rw [Nat.add_zero] at u1 u2
      have h4 : sumN (fun i => ln S (rw_ S v i)) ((loc S v a).1 + 1) ≤ sumN (fun i => ln S (rw_ S v i)) i := sumN_mono (by omega)
      have h5 : sumN (fun i => ln S (rw_ S v i)) ((loc S v a).1 + 1) = sumN (fun i => ln S (rw_ S v i)) (loc S v a).1 + ln S (rw_ S v (loc S v a).1) := rfl
      have h6 : sumN (fun i => ln S (rw_ S v i)) i ≤ sumN (fun i => ln S (rw_ S v i)) (loc S v (b - 1)).1 := sumN_mono (by omega)
      refine anyN_t.mpr ⟨sumN (fun i => ln S (rw_ S v i)) i - a, by omega, ?_⟩
      show tat S v (a + (sumN (fun i => ln S (rw_ S v i)) i - a)) = true
      rw [show a + (sumN (fun i => ln S (rw_ S v i)) i - a) = sumN (fun i => ln S (rw_ S v i)) i by omega]
      unfold tat
      rw [u2]
      exact i3
theorem span_loop (w : WF S) (C : RX Z S pb pv h) {v a b x : Nat} (hv : v < nv S) (hab : a < b) (hb : b ≤ plc S v) (hx : x ≤ 3) : ∀ (q k i : Nat), i + k = (loc S v (b - 1)).1 + 1 → k < q → (loc S v a).1 ≤ i → (∀ j, (loc S v a).1 ≤ j → j < i → tn S (rw_ S v j) = false) →
    ∃ h', F_X8_span_56 q 1 (nI a) (nI b) (nI x) (rD (pv v)) (nI i) h = some (if anyN (fun j => tat S v (a + j)) (b - a) = true then -100005 else nI (spanV S v a (b - a) x), h') ∧ RX Z S pb pv h' ∧ Fr (fun q => q = 12 ∨ q = 13) h h'
  | 0, k, i, h1, h2, h3, h4 => by omega
  | q + 1, 0, i, h1, h2, h3, h4 => by
    have hl := plc_le w hv
    have hw := (w.2.2.2.2 v hv).1
    have m1 := (loc_spec (show b - 1 < plc S v by omega)).1
    obtain ⟨h', f', e, C', r', hf', F⟩ := openAll_t w C hv
    refine ⟨h', ?_, C', F⟩
    have ht : ¬ anyN (fun j => tat S v (a + j)) (b - a) = true := fun z => by
      obtain ⟨j, j1, j2, j3⟩ := (torn_span w hv hab hb).mp z
      rw [h4 j j1 (by omega)] at j3
      cases j3
    rw [if_neg ht]
    have ht2 : ∀ j, j < b - a → f' (a + j) = nI (sat S v (a + j)) := fun j hj => by
      refine hf' (a + j) (by omega) ?_
      cases z : tat S v (a + j) with
      | false => rfl
      | true => exact absurd (anyN_t.mpr ⟨j, hj, z⟩) ht
    have hs : ∀ j, j < b - a → sat S v (a + j) < 16 := fun j hj => sat_lt w hv (by omega)
    rw [F_X8_span_56, show nI b = nI (b - 1 + 1) by rw [show b - 1 + 1 = b by omega], pre_nI, show b - 1 + 1 = b by omega, indexAt_t w C hv (show b - 1 < plc S v by omega), Option.bind_some, if_pos (nI_lt (by omega) (by omega)), e, Option.bind_some]
    have eg : am_gr 8 9 1 h' = some 12 := C'.gr (k := 9) (x := 12) (fun _ => rfl)
    have hb2 : nI b = nI (a + (b - a)) := by rw [show a + (b - a) = b by omega]
    unfold spanV
    have x0 : (nI x = (0 : Int32)) ↔ x = 0 := nI_eq (b := 0) (by omega) (by omega)
    have x1 : (nI x = (1 : Int32)) ↔ x = 1 := nI_eq (b := 1) (by omega) (by omega)
    have x2 : (nI x = (2 : Int32)) ↔ x = 2 := nI_eq (b := 2) (by omega) (by omega)
    by_cases c0 : x = 0
    · rw [if_pos (x0.mpr c0), if_pos c0, eg, Option.bind_some, hb2, row_sum r' (g := fun j => sat S v (a + j)) (by omega) ht2, Option.bind_some]
    · rw [if_neg (fun z => c0 (x0.mp z)), if_neg c0]
      by_cases c1 : x = 1
      · rw [if_pos (x1.mpr c1), if_pos c1, eg, Option.bind_some, hb2, row_least r' (g := fun j => sat S v (a + j)) (by omega) (by omega) ht2 hs, Option.bind_some]
      · rw [if_neg (fun z => c1 (x1.mp z)), if_neg c1]
        by_cases c2 : x = 2
        · rw [if_pos (x2.mpr c2), if_pos c2, eg, Option.bind_some, hb2, row_greatest r' (g := fun j => sat S v (a + j)) (by omega) (by omega) ht2 hs, Option.bind_some]
        · rw [if_neg (fun z => c2 (x2.mp z)), if_neg c2]
          have := mostOften_loop w C' hv r' (show a + (b - a) ≤ plc S v by omega) ht2 am_F 16 0 (by omega) (by show _ < 100000; omega)
          unfold F_X8_mostOften F_X8_mostOften_b
          rw [C'.ob, hb2, show (0 : Int32) = nI 0 from rfl]
          rw [show (mo (cAt S v a (b - a)) 0).1 = 0 from rfl, show (mo (cAt S v a (b - a)) 0).2 = 0 from rfl] at this
          rw [this, Option.bind_some]
  | q + 1, k + 1, i, h1, h2, h3, h4 => by
    have hl := plc_le w hv
    have hw := (w.2.2.2.2 v hv).1
    have m1 := (loc_spec (show b - 1 < plc S v by omega)).1
    rw [F_X8_span_56, show nI b = nI (b - 1 + 1) by rw [show b - 1 + 1 = b by omega], pre_nI, show b - 1 + 1 = b by omega, indexAt_t w C hv (show b - 1 < plc S v by omega), Option.bind_some, if_neg (nI_nlt (by omega) (by omega)), isTornIn_t w C hv (show i < rl S v by omega), Option.bind_some]
    cases ht : tn S (rw_ S v i) with
    | true =>
      rw [if_neg (by decide), if_pos ((torn_span w hv hab hb).mpr ⟨i, h3, by omega, ht⟩)]
      exact ⟨h, rfl, C, Fr.rf⟩
    | false =>
      rw [if_pos (show bI false = 0 from rfl), nI_1]
      exact span_loop w C hv hab hb hx q k (i + 1) (by omega) (by omega) (by omega) (fun j j1 j2 => by
        by_cases z : j = i
        · rw [z]; exact ht
        · exact h4 j j1 (by omega))
theorem x_span (w : WF S) (C : RX Z S pb pv h) (v a b x : Int32) : ∃ h', F_X8_span 1 v a b x h = some (sp_span S v a b x, h') ∧ RX Z S pb pv h' ∧ Fr (fun q => q = 12 ∨ q = 13) h h' := by
  unfold sp_span
  by_cases hv : vd (nv S) v
  · obtain ⟨u, hu, rfl⟩ := nI_of_toInt hv.1 hv.2
    have hn := w.2.2.2.1
    have hl := plc_le w hu
    have hw := (w.2.2.2.2 u hu).1
    rw [cl_nI (show u < 2 ^ 31 by omega)]
    unfold F_X8_span F_X8_span_b F_X8_span_30 F_X8_span_44
    rw [C.ob, versionOf_t w C hu, Option.bind_some, if_neg (rD_ne _), (C.2.2.2.2.2.2.1 u hu).f.2.2.2.1, Option.bind_some]
    have a0 : (a < (0 : Int32)) ↔ a.toInt < 0 := (lt_lit (x := a) (n := 0) (by decide)).1
    have b0 : (nI (plc S u) < b) ↔ (plc S u : Int) < b.toInt := (lt_lit (x := b) (n := plc S u) (by omega)).2.1
    have ab : (a < b) ↔ a.toInt < b.toInt := Int32.lt_iff_toInt_lt
    have x0 : (x < (0 : Int32)) ↔ x.toInt < 0 := (lt_lit (x := x) (n := 0) (by decide)).1
    have x1 : (x ≤ (3 : Int32)) ↔ x.toInt ≤ 3 := (lt_lit (x := x) (n := 3) (by decide)).2.2.1
    by_cases c1 : a.toInt < 0
    · rw [if_pos (a0.mpr c1), if_neg (fun q => by omega)]
      exact ⟨h, rfl, C, Fr.rf⟩
    rw [if_neg (fun q => c1 (a0.mp q))]
    by_cases c2 : (plc S u : Int) < b.toInt
    · rw [if_pos (b0.mpr c2), if_neg (fun q => by omega)]
      exact ⟨h, rfl, C, Fr.rf⟩
    rw [if_neg (fun q => c2 (b0.mp q))]
    by_cases c3 : a.toInt < b.toInt
    · rw [if_pos (ab.mpr c3), if_pos (show vd (nv S) (nI u) ∧ 0 ≤ a.toInt ∧ a.toInt < b.toInt ∧ b.toInt ≤ plc S u from ⟨hv, by omega, c3, by omega⟩)]
      by_cases c4 : x.toInt < 0
      · rw [if_pos (x0.mpr c4), if_neg (fun q => by omega)]
        exact ⟨h, rfl, C, Fr.rf⟩
      rw [if_neg (fun q => c4 (x0.mp q))]
      by_cases c5 : x.toInt ≤ 3
      · rw [if_pos (x1.mpr c5), if_pos (show 0 ≤ x.toInt ∧ x.toInt ≤ 3 by omega)]
        obtain ⟨z, hz, rfl⟩ := nI_of_toInt (n := 4) (v := x) (by omega) (by omega)
        obtain ⟨a', ha, rfl⟩ := nI_of_toInt (n := plc S u) (v := a) (by omega) (by omega)
        obtain ⟨b', hb, rfl⟩ := nI_of_toInt (n := plc S u + 1) (v := b) (by omega) (by omega)
        rw [nI_toInt (by omega), nI_toInt (by omega)] at c3
        rw [cl_nI (by omega), cl_nI (by omega), cl_nI (by omega), indexAt_t w C hu ha, Option.bind_some]
        have hlm := loc_mono (show a' ≤ b' - 1 by omega) (show b' - 1 < plc S u by omega)
        have m1 := (loc_spec (show b' - 1 < plc S u by omega)).1
        exact span_loop w C hu (by omega) (by omega) (by omega) am_F ((loc S u (b' - 1)).1 + 1 - (loc S u a').1) (loc S u a').1 (by omega) (by show _ < 100000; omega) (Nat.le_refl _) (fun j j1 j2 => by omega)
      · rw [if_neg (fun q => c5 (x1.mp q)), if_neg (fun q => by omega)]
        exact ⟨h, rfl, C, Fr.rf⟩
    · rw [if_neg (fun q => c3 (ab.mp q)), if_neg (fun q => by omega)]
      exact ⟨h, rfl, C, Fr.rf⟩
  · rw [if_neg (fun q => hv q.1)]
    refine ⟨h, ?_, C, Fr.rf⟩
    unfold F_X8_span F_X8_span_b F_X8_span_30
    rw [C.ob, versionOf_f w C hv, Option.bind_some, if_pos rfl]
end SP
