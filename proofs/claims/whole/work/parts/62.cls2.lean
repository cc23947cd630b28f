/-! the class: open, told, count, share, sums, entropy -/
theorem anyN_f {p : Nat → Bool} : ∀ n, anyN p n = false ↔ ∀ j, j < n → p j = false
  | 0 => ⟨fun _ j hj => by omega, fun _ => rfl⟩
  | n + 1 => by
    simp only [anyN, Bool.or_eq_false_iff, anyN_f n]
    refine ⟨fun q j hj => ?_, fun q => ⟨fun j hj => q j (by omega), q n (by omega)⟩⟩
    by_cases e : j = n
    · rw [e]; exact q.2
    · exact q.1 j (by omega)
theorem anyN_t {p : Nat → Bool} {n : Nat} : anyN p n = true ↔ ∃ j, j < n ∧ p j = true := by
  constructor
  · intro h
    induction n with
    | zero => cases h
    | succ n ih =>
      simp only [anyN, Bool.or_eq_true] at h
      rcases h with h | h
      · obtain ⟨j, h1, h2⟩ := ih h
        exact ⟨j, by omega, h2⟩
      · exact ⟨n, by omega, h⟩
  · rintro ⟨j, h1, h2⟩
    cases h : anyN p n with
    | true => rfl
    | false =>
      have := (anyN_f n).mp h j h1
      rw [h2] at this
      cases this
theorem anyN_cong {p q : Nat → Bool} : ∀ n, (∀ i, i < n → p i = q i) → anyN p n = anyN q n
  | 0, _ => rfl
  | n + 1, h => by
    simp only [anyN]
    rw [anyN_cong n (fun i hi => h i (by omega)), h n (by omega)]
theorem cntN_cong {p q : Nat → Bool} : ∀ n, (∀ i, i < n → p i = q i) → cntN p n = cntN q n
  | 0, _ => rfl
  | n + 1, h => by
    simp only [cntN]
    rw [cntN_cong n (fun i hi => h i (by omega)), h n (by omega)]
/-- one place more -/
theorem cntN_one {p q : Nat → Bool} {x : Nat} : ∀ n, x < n → p x = false → (∀ b, b < n → b ≠ x → q b = p b) → cntN q n = cntN p n + bN (q x)
  | 0, h, _, _ => by omega
  | n + 1, h, h1, h2 => by
    simp only [cntN]
    by_cases e : x = n
    · subst e
      rw [cntN_cong x (p := q) (q := p) (fun i hi => h2 i (by omega) (by omega)), h1]
      simp [bN]
    · rw [cntN_one n (by omega) h1 (fun b hb hx => h2 b (by omega) hx), h2 n (by omega) (by omega)]
      omega
theorem fstF_eq (f : Nat → Int32) (x : Int32) : ∀ m i j, i ≤ j → j < i + m → (fstF f x m i = j ↔ f j = x ∧ ∀ q, i ≤ q → q < j → f q ≠ x)
  | 0, i, j, h1, h2 => by omega
  | m + 1, i, j, h1, h2 => by
    unfold fstF
    by_cases he : f i = x
    · rw [if_pos he]
      refine ⟨fun q => ?_, fun q => ?_⟩
      · subst q; exact ⟨he, fun q h3 h4 => by omega⟩
      · by_cases e : i = j
        · exact e
        · exact absurd he (q.2 i (Nat.le_refl _) (by omega))
    · rw [if_neg he]
      by_cases e : i = j
      · subst e
        refine ⟨fun q => ?_, fun q => absurd q.1 he⟩
        have h5 : i + 1 ≤ fstF f x m (i + 1) := by
          have : ∀ m i, i ≤ fstF f x m i := by
            intro m
            induction m with
            | zero => exact fun i => Nat.le_refl _
            | succ m ih =>
              intro i
              unfold fstF
              split
              · exact Nat.le_refl _
              · exact Nat.le_trans (by omega) (ih (i + 1))
          exact this m (i + 1)
        omega
      · rw [fstF_eq f x m (i + 1) j (by omega) (by omega)]
        refine ⟨fun q => ⟨q.1, fun z h3 h4 => ?_⟩, fun q => ⟨q.1, fun z h3 h4 => q.2 z (by omega) h4⟩⟩
        by_cases e2 : z = i
        · rw [e2]; exact he
        · exact q.2 z (by omega) h4
section CL2
variable {Z : sZ} {S : sS} {pb pv : Nat → Nat} {h : am_H}
theorem row_has {a cap n : Nat} {f : Nat → Int32} (r : RowAt h a cap n f) (x : Int32) : F_X4_has a x h = some (bI (anyN (fun i => f i == x) n)) := by
  have h3 := r.2
  simp only [F_X4_has, F_X4_has_b, F_X4_has_14, r.1.1, Option.bind_some, row_firstOf r]
  have hle := fstF_le f x n 0
  cases hq : anyN (fun i => f i == x) n with
  | false =>
    have : fstF f x n 0 = n := by
      have := (fstF_any f x n 0).mpr (fun j _ hj => by simpa using (anyN_f n).mp hq j (by omega))
      omega
    rw [if_pos this, if_pos rfl]
    rfl
  | true =>
    have : ¬ fstF f x n 0 = n := fun e => by
      obtain ⟨j, h1, h2⟩ := anyN_t.mp hq
      exact (fstF_any f x n 0).mp (by omega) j (by omega) (by omega) (by simpa using h2)
    rw [if_neg this, if_neg]
    · rfl
    · intro e
      have h4 : nI (fstF f x n 0) < 0 := by rw [e]; decide
      exact nI_pos (by omega) h4
theorem has_nI {n b : Nat} {f : Nat → Int32} {g : Nat → Nat} (hf : ∀ i, i < n → f i = nI (g i)) (hg : ∀ i, i < n → g i < 2 ^ 31) (hb : b < 2 ^ 31) : anyN (fun i => f i == nI b) n = anyN (fun i => g i == b) n :=
  anyN_cong n (fun i hi => by
    show (f i == nI b) = (g i == b)
    rw [hf i hi]
    by_cases e : g i = b
    · simp [e]
    · have h1 : ¬ nI (g i) = nI b := fun q => e ((nI_eq (hg i hi) hb).mp q)
      rw [beq_eq_false_iff_ne.mpr h1, beq_eq_false_iff_ne.mpr e])
theorem ver_has (w : WF S) (C : RX Z S pb pv h) {v b : Nat} (hv : v < nv S) (hb : b < 200) : F_X4_has (rD (pv v) + 5) (nI b) h = some (bI (hasB S v b)) := by
  have V := C.2.2.2.2.2.2.1 v hv
  obtain ⟨f, hf, hf2⟩ := V.2.1
  have hw := (w.2.2.2.2 v hv).1
  have hn := w.2.2.1.1
  rw [row_has hf, has_nI hf2 (fun i hi => by have := hw.2 i hi; omega) (by omega)]
  rfl
/-! which block holds the place -/
theorem indexAt_loop (w : WF S) (C : RX Z S pb pv h) {v p : Nat} (hv : v < nv S) (hp : p < plc S v) : ∀ (m k i : Nat), i + k = rl S v → k < m → sumN (fun i => ln S (rw_ S v i)) i ≤ p → F_X8_indexAt_5 m 1 (rD (pv v)) (nI p) (nI (sumN (fun i => ln S (rw_ S v i)) i)) (nI i) h = some (nI (locF S v k i (p - sumN (fun i => ln S (rw_ S v i)) i)).1)
  | 0, k, i, h1, h2, h3 => by omega
  | m + 1, 0, i, h1, h2, h3 => by
    rw [show i = rl S v by omega] at h3
    unfold plc at hp
    omega
  | m + 1, k + 1, i, h1, h2, h3 => by
    have hi : i < rl S v := by omega
    have hl := plc_le w hv
    have hw := (w.2.2.2.2 v hv).1
    have hb := hw.2 i hi
    have hl2 := (w.2.2.1.2 _ hb).1
    have V := C.2.2.2.2.2.2.1 v hv
    obtain ⟨f, hf, hf2⟩ := V.2.1
    have ea : sumN (fun i => ln S (rw_ S v i)) (i + 1) = sumN (fun i => ln S (rw_ S v i)) i + ln S (rw_ S v i) := rfl
    rw [F_X8_indexAt_5]
    simp only [V.f.1, Option.bind_some, row_length hf, lengthIn_t w C hv hi, nI_add]
    rw [if_neg (nI_ge hi (by omega))]
    unfold locF
    by_cases hc : p - sumN (fun i => ln S (rw_ S v i)) i < ln S (rw_ S v i)
    · rw [if_neg (nI_ge (by omega) (by omega)), if_pos hc]
    · rw [if_pos (nI_le (by omega) (by omega)), if_neg hc, nI_1]
      have := indexAt_loop w C hv hp m k (i + 1) (by omega) (by omega) (by omega)
      rw [ea, Nat.sub_add_eq] at this
      exact this
theorem indexAt_t (w : WF S) (C : RX Z S pb pv h) {v p : Nat} (hv : v < nv S) (hp : p < plc S v) : F_X8_indexAt 1 (rD (pv v)) (nI p) h = some (nI (loc S v p).1) := by
  have hw := (w.2.2.2.2 v hv).1
  simp only [F_X8_indexAt, C.ob, F_X8_indexAt_b]
  exact indexAt_loop w C hv hp am_F (rl S v) 0 (by omega) (by show _ < 100000; omega) (by simp [sumN])
theorem startOf_loop (w : WF S) (C : RX Z S pb pv h) {v j : Nat} (hv : v < nv S) (hj : j ≤ rl S v) : ∀ (m k i : Nat), i + k = j → k < m → F_X8_startOf_5 m 1 (rD (pv v)) (nI j) (nI (sumN (fun i => ln S (rw_ S v i)) i)) (nI i) h = some (nI (sumN (fun i => ln S (rw_ S v i)) j))
  | 0, k, i, h1, h2 => by omega
  | m + 1, 0, i, h1, h2 => by
    have hw := (w.2.2.2.2 v hv).1
    rw [F_X8_startOf_5, if_pos (nI_le (by omega) (by omega)), show i = j by omega]
    rfl
  | m + 1, k + 1, i, h1, h2 => by
    have hi : i < rl S v := by omega
    have hw := (w.2.2.2.2 v hv).1
    have V := C.2.2.2.2.2.2.1 v hv
    obtain ⟨f, hf, hf2⟩ := V.2.1
    rw [F_X8_startOf_5, if_neg (nI_ge (by omega) (by omega))]
    simp only [V.f.1, Option.bind_some, row_length hf, lengthIn_t w C hv hi, nI_add, nI_1]
    rw [if_neg (nI_ge hi (by omega))]
    exact startOf_loop w C hv hj m k (i + 1) (by omega) (by omega)
theorem startOf_t (w : WF S) (C : RX Z S pb pv h) {v j : Nat} (hv : v < nv S) (hj : j ≤ rl S v) : F_X8_startOf 1 (rD (pv v)) (nI j) h = some (nI (sumN (fun i => ln S (rw_ S v i)) j)) := by
  have hw := (w.2.2.2.2 v hv).1
  simp only [F_X8_startOf, C.ob, F_X8_startOf_b]
  exact startOf_loop w C hv hj am_F j 0 (by omega) (by show _ < 100000; omega)
theorem x_open (w : WF S) (C : RX Z S pb pv h) (v p : Int32) : F_X8_open 1 v p h = some (sp_open S v p) := by
  unfold sp_open
  by_cases hv : vd (nv S) v
  · obtain ⟨k, hk, rfl⟩ := nI_of_toInt hv.1 hv.2
    have hn := w.2.2.2.1
    have hl := plc_le w hk
    have V := C.2.2.2.2.2.2.1 k hk
    rw [cl_nI (show k < 2 ^ 31 by omega)]
    simp only [F_X8_open, C.ob, F_X8_open_b, F_X8_open_22, versionOf_t w C hk, Option.bind_some, if_neg (rD_ne _), V.f.2.2.2.1]
    by_cases h2 : vd (plc S k) p
    · obtain ⟨q, hq, rfl⟩ := nI_of_toInt h2.1 h2.2
      obtain ⟨l1, l2, l3⟩ := loc_spec hq
      rw [if_pos (show vd (nv S) (nI k) ∧ vd (plc S k) (nI q) from ⟨hv, h2⟩), cl_nI (show q < 2 ^ 31 by omega), if_neg (nI_pos (by omega)), if_pos (nI_lt hq (by omega))]
      simp only [indexAt_t w C hk hq, isTornIn_t w C hk l1, Option.bind_some, bI_0, startOf_t w C hk (show (loc S k q).1 ≤ rl S k by omega), nI_subN (show sumN (fun i => ln S (rw_ S k i)) (loc S k q).1 ≤ q by omega), show q - sumN (fun i => ln S (rw_ S k i)) (loc S k q).1 = (loc S k q).2 by omega]
      cases ht : tn S (rw_ S k (loc S k q).1) with
      | true => rfl
      | false =>
        rw [if_pos rfl, signIn_t w C hk l1 l2 ht]
        rfl
    · rw [if_neg (show ¬ (vd (nv S) (nI k) ∧ vd (plc S k) p) from fun q => h2 q.2)]
      by_cases h3 : p < 0
      · rw [if_pos h3]
      · rw [if_neg h3]
        obtain ⟨j, hj, rfl⟩ := nI_of h3
        rw [if_neg]
        intro q
        have := (nI_ltI hj (by omega)).mp q
        exact h2 (vd_nI this (by omega))
  · rw [if_neg (fun q => hv q.1)]
    simp only [F_X8_open, C.ob, F_X8_open_b, F_X8_open_22, versionOf_f w C hv, Option.bind_some, if_true]
/-! told, count -/
theorem versionsWith_loop (w : WF S) (C : RX Z S pb pv h) {b : Nat} (hb : b < 200) : ∀ (m i : Nat), i ≤ nv S → nv S < i + m → F_X8_versionsWith_4 m 1 (nI b) (nI (cntN (fun v => hasB S v b) i)) (nI i) h = some (nI (cntN (fun v => hasB S v b) (nv S)))
  | 0, i, h1, h2 => by omega
  | m + 1, i, h1, h2 => by
    have hn := w.2.2.2.1
    rw [F_X8_versionsWith_4]
    simp only [C.gi5, Option.bind_some]
    by_cases hc : nv S ≤ i
    · rw [if_pos (nI_le hc (by omega)), show i = nv S by omega]
    · rw [if_neg (nI_ge (by omega) (by omega))]
      have hi : i < nv S := by omega
      have ih := versionsWith_loop w C hb m (i + 1) (by omega) (by omega)
      rw [show cntN (fun v => hasB S v b) (i + 1) = cntN (fun v => hasB S v b) i + bN (hasB S i b) from rfl] at ih
      simp only [versionOf_t w C hi, Option.bind_some, if_neg (rD_ne _), (C.2.2.2.2.2.2.1 i hi).f.1, ver_has w C hi hb, bI_0, F_X8_versionsWith_39, nI_1]
      cases ht : hasB S i b with
      | true => rw [ht] at ih; exact ih
      | false => rw [ht] at ih; exact ih
theorem x_told (w : WF S) (C : RX Z S pb pv h) (b x : Int32) : F_X8_told 1 b x h = some (sp_told S b x) := by
  unfold sp_told
  by_cases hb : vd (nb S) b
  · obtain ⟨k, hk, rfl⟩ := nI_of_toInt hb.1 hb.2
    have hn := w.2.2.1.1
    have hn2 := w.2.2.2.1
    have B := C.2.2.2.2.2.1 k hk
    obtain ⟨f, hf, hf2⟩ := B.2.1
    have hvw : F_X8_versionsWith 1 (nI k) h = some (nI (cntN (fun v => hasB S v k) (nv S))) := by
      simp only [F_X8_versionsWith, C.ob, F_X8_versionsWith_b]
      exact versionsWith_loop w C (by omega) am_F 0 (by omega) (by show _ < 0 + 100000; omega)
    rw [if_pos hb, cl_nI (show k < 2 ^ 31 by omega)]
    simp only [F_X8_told, C.ob, F_X8_told_b, F_X8_told_60, blockOf_t w C hk, Option.bind_some, if_neg (rD_ne _), B.f, row_length hf, hvw, bI_0]
    by_cases c0 : x = 0
    · rw [if_pos c0, if_pos c0]
    · rw [if_neg c0, if_neg c0]
      by_cases c1 : x = 1
      · rw [if_pos c1, if_pos c1]
        cases tn S k <;> rfl
      · rw [if_neg c1, if_neg c1]
        by_cases c2 : x = 2
        · rw [if_pos c2, if_pos c2]
        · rw [if_neg c2, if_neg c2]
  · rw [if_neg hb]
    simp only [F_X8_told, C.ob, F_X8_told_b, blockOf_f w C hb, Option.bind_some, if_true]
theorem allTorn_loop (w : WF S) (C : RX Z S pb pv h) : ∀ (m i : Nat), i ≤ nb S → nb S < i + m → F_X8_allTorn_4 m 1 (nI (cntN (tn S) i)) (nI i) h = some (nI (cntN (tn S) (nb S)))
  | 0, i, h1, h2 => by omega
  | m + 1, i, h1, h2 => by
    have hn := w.2.2.1.1
    rw [F_X8_allTorn_4]
    simp only [C.gi3, Option.bind_some]
    by_cases hc : nb S ≤ i
    · rw [if_pos (nI_le hc (by omega)), show i = nb S by omega]
    · rw [if_neg (nI_ge (by omega) (by omega))]
      have hi : i < nb S := by omega
      have ih := allTorn_loop w C m (i + 1) (by omega) (by omega)
      rw [show cntN (tn S) (i + 1) = cntN (tn S) i + bN (tn S i) from rfl] at ih
      simp only [blockOf_t w C hi, Option.bind_some, if_neg (rD_ne _), (C.2.2.2.2.2.1 i hi).f.2.2.2, bI_0, F_X8_allTorn_32, nI_1]
      cases ht : tn S i with
      | true => rw [ht] at ih; exact ih
      | false => rw [ht] at ih; exact ih
theorem signsOfBlocks_loop (w : WF S) (C : RX Z S pb pv h) : ∀ (m i : Nat), i ≤ nb S → nb S < i + m → F_X8_signsOfBlocks_4 m 1 (nI (sumN (ln S) i)) (nI i) h = some (nI (sumN (ln S) (nb S)))
  | 0, i, h1, h2 => by omega
  | m + 1, i, h1, h2 => by
    have hn := w.2.2.1.1
    rw [F_X8_signsOfBlocks_4]
    simp only [C.gi3, Option.bind_some]
    by_cases hc : nb S ≤ i
    · rw [if_pos (nI_le hc (by omega)), show i = nb S by omega]
    · rw [if_neg (nI_ge (by omega) (by omega))]
      have hi : i < nb S := by omega
      have B := C.2.2.2.2.2.1 i hi
      obtain ⟨f, hf, hf2⟩ := B.2.1
      simp only [blockOf_t w C hi, Option.bind_some, if_neg (rD_ne _), B.f.1, row_length hf, F_X8_signsOfBlocks_32, nI_1, nI_add]
      exact signsOfBlocks_loop w C m (i + 1) (by omega) (by omega)
theorem signsOfVersions_loop (w : WF S) (C : RX Z S pb pv h) : ∀ (m i : Nat), i ≤ nv S → nv S < i + m → F_X8_signsOfVersions_4 m 1 (nI (sumN (plc S) i)) (nI i) h = some (nI (sumN (plc S) (nv S)))
  | 0, i, h1, h2 => by omega
  | m + 1, i, h1, h2 => by
    have hn := w.2.2.2.1
    rw [F_X8_signsOfVersions_4]
    simp only [C.gi5, Option.bind_some]
    by_cases hc : nv S ≤ i
    · rw [if_pos (nI_le hc (by omega)), show i = nv S by omega]
    · rw [if_neg (nI_ge (by omega) (by omega))]
      have hi : i < nv S := by omega
      simp only [versionOf_t w C hi, Option.bind_some, if_neg (rD_ne _), (C.2.2.2.2.2.2.1 i hi).f.2.2.2.1, F_X8_signsOfVersions_29, nI_1, nI_add]
      exact signsOfVersions_loop w C m (i + 1) (by omega) (by omega)
theorem x_count (w : WF S) (C : RX Z S pb pv h) (x : Int32) : F_X8_count 1 x h = some (sp_count S x) := by
  have hn := w.2.2.1.1
  have hn2 := w.2.2.2.1
  have e1 : F_X8_allTorn 1 h = some (nI (cntN (tn S) (nb S))) := by
    simp only [F_X8_allTorn, C.ob, F_X8_allTorn_b]
    exact allTorn_loop w C am_F 0 (by omega) (by show _ < 0 + 100000; omega)
  have e2 : F_X8_signsOfBlocks 1 h = some (nI (sumN (ln S) (nb S))) := by
    simp only [F_X8_signsOfBlocks, C.ob, F_X8_signsOfBlocks_b]
    exact signsOfBlocks_loop w C am_F 0 (by omega) (by show _ < 0 + 100000; omega)
  have e3 : F_X8_signsOfVersions 1 h = some (nI (sumN (plc S) (nv S))) := by
    simp only [F_X8_signsOfVersions, C.ob, F_X8_signsOfVersions_b]
    exact signsOfVersions_loop w C am_F 0 (by omega) (by show _ < 0 + 100000; omega)
  obtain ⟨f, hf, -⟩ := C.2.1
  obtain ⟨f', hf', -⟩ := C.2.2.1
  unfold sp_count
  simp only [F_X8_count, C.ob, F_X8_count_b, e1, e2, e3, C.gi3, C.gi5, C.gr (k := 0) (x := 2) (fun _ => rfl), C.gr (k := 1) (x := 4) (fun _ => rfl), row_length hf, row_length hf', Option.bind_some]
  repeat' split
  all_goals rfl
/-! share -/
theorem share_count (w : WF S) {v u : Nat} (hv : v < nv S) : ∀ m, m ≤ rl S v → cntN (fun i => hasB S u (rw_ S v i) && !(anyN (fun j => rw_ S v j == rw_ S v i) i)) m = cntN (fun b => anyN (fun j => rw_ S v j == b) m && hasB S u b) (nb S)
  | 0, _ => by
    have : ∀ n, cntN (fun b => anyN (fun j => rw_ S v j == b) 0 && hasB S u b) n = 0 := by
      intro n
      induction n with
      | zero => rfl
      | succ n ih => simp only [cntN, ih]; rfl
    rw [this]
    rfl
  | m + 1, hm => by
    have hx := (w.2.2.2.2 v hv).1.2 m (by omega)
    simp only [cntN, share_count w hv m (by omega)]
    cases ha : anyN (fun j => rw_ S v j == rw_ S v m) m with
    | true =>
      rw [Bool.not_true, Bool.and_false]
      show _ + 0 = _
      rw [Nat.add_zero]
      apply cntN_cong
      intro b hb
      show (anyN (fun j => rw_ S v j == b) m && hasB S u b) = ((anyN (fun j => rw_ S v j == b) m || (rw_ S v m == b)) && hasB S u b)
      by_cases e : rw_ S v m = b
      · subst e; rw [ha]; rfl
      · have : (rw_ S v m == b) = false := by simpa using e
        rw [this, Bool.or_false]
    | false =>
      rw [Bool.not_false, Bool.and_true]
      have := cntN_one (p := fun b => anyN (fun j => rw_ S v j == b) m && hasB S u b) (q := fun b => anyN (fun j => rw_ S v j == b) (m + 1) && hasB S u b) (x := rw_ S v m) (nb S) hx (by show (_ && _) = false; rw [ha]; rfl) (fun b hb hne => by
        show ((anyN (fun j => rw_ S v j == b) m || (rw_ S v m == b)) && hasB S u b) = (anyN (fun j => rw_ S v j == b) m && hasB S u b)
        have : (rw_ S v m == b) = false := by simpa using (Ne.symm hne)
        rw [this, Bool.or_false])
      rw [this]
      have e2 : (anyN (fun j => rw_ S v j == rw_ S v m) (m + 1) && hasB S u (rw_ S v m)) = hasB S u (rw_ S v m) := by
        show ((_ || (rw_ S v m == rw_ S v m)) && _) = _
        simp
      rw [e2]
theorem share_loopx (w : WF S) (C : RX Z S pb pv h) {v u : Nat} (hv : v < nv S) (hu : u < nv S) : ∀ (m i : Nat), i ≤ rl S v → rl S v < i + m → F_X8_share_31 m (rD (pv v)) (rD (pv u)) (nI (cntN (fun i => hasB S u (rw_ S v i) && !(anyN (fun j => rw_ S v j == rw_ S v i) i)) i)) (nI i) h = some (nI (cntN (fun i => hasB S u (rw_ S v i) && !(anyN (fun j => rw_ S v j == rw_ S v i) i)) (rl S v)))
  | 0, i, h1, h2 => by omega
  | m + 1, i, h1, h2 => by
    have hw := (w.2.2.2.2 v hv).1
    have hn := w.2.2.1.1
    have V := C.2.2.2.2.2.2.1 v hv
    obtain ⟨f, hf, hf2⟩ := V.2.1
    rw [F_X8_share_31]
    simp only [V.f.1, Option.bind_some, row_length hf]
    by_cases hc : rl S v ≤ i
    · rw [if_pos (nI_le hc (by omega)), show i = rl S v by omega]
    · rw [if_neg (nI_ge (by omega) (by omega))]
      have hi : i < rl S v := by omega
      have hb := hw.2 i hi
      have ih := share_loopx w C hv hu m (i + 1) (by omega) (by omega)
      rw [show cntN (fun i => hasB S u (rw_ S v i) && !(anyN (fun j => rw_ S v j == rw_ S v i) i)) (i + 1) = cntN (fun i => hasB S u (rw_ S v i) && !(anyN (fun j => rw_ S v j == rw_ S v i) i)) i + bN (hasB S u (rw_ S v i) && !(anyN (fun j => rw_ S v j == rw_ S v i) i)) from rfl] at ih
      simp only [row_at hf hi, hf2 i hi, Option.bind_some, (C.2.2.2.2.2.2.1 u hu).f.1, ver_has w C hu (show rw_ S v i < 200 by omega), bI_0, row_firstOf hf, F_X8_share_84, nI_1]
      cases ht : hasB S u (rw_ S v i) with
      | false => rw [ht] at ih; exact ih
      | true =>
        rw [ht, Bool.true_and] at ih
        rw [if_neg (show ¬ true = false by decide)]
        have hq := fstF_eq f (nI (rw_ S v i)) (rl S v) 0 i (by omega) (by omega)
        have hle := fstF_le f (nI (rw_ S v i)) (rl S v) 0
        have hne : ¬ fstF f (nI (rw_ S v i)) (rl S v) 0 = rl S v := fun e => (fstF_any f (nI (rw_ S v i)) (rl S v) 0).mp (by omega) i (by omega) (by omega) (hf2 i hi)
        rw [if_neg hne]
        have hnI : (nI (fstF f (nI (rw_ S v i)) (rl S v) 0) = nI i) ↔ fstF f (nI (rw_ S v i)) (rl S v) 0 = i := nI_eq (by omega) (by omega)
        cases ha : anyN (fun j => rw_ S v j == rw_ S v i) i with
        | true =>
          rw [ha] at ih
          rw [if_neg]
          · exact ih
          · intro e
            obtain ⟨j, j1, j2⟩ := anyN_t.mp ha
            have := (hq.mp (hnI.mp e)).2 j (by omega) j1
            rw [hf2 j (by omega)] at this
            exact this (by rw [show rw_ S v j = rw_ S v i by simpa using j2])
        | false =>
          rw [ha] at ih
          rw [if_pos]
          · exact ih
          · refine hnI.mpr (hq.mpr ⟨hf2 i hi, fun j _ j2 e => ?_⟩)
            rw [hf2 j (by omega)] at e
            have h5 := hw.2 j (by omega)
            have h6 := (nI_eq (by omega) (by omega)).mp e
            have := (anyN_f i).mp ha j j2
            rw [h6] at this
            simp at this
theorem x_share (w : WF S) (C : RX Z S pb pv h) (v u : Int32) : F_X8_share 1 v u h = some (sp_share S v u) := by
  unfold sp_share
  by_cases hv : vd (nv S) v
  · obtain ⟨k, hk, rfl⟩ := nI_of_toInt hv.1 hv.2
    by_cases hu : vd (nv S) u
    · obtain ⟨j, hj, rfl⟩ := nI_of_toInt hu.1 hu.2
      have hn := w.2.2.2.1
      have hw := (w.2.2.2.2 k hk).1
      rw [if_pos ⟨hv, hu⟩, cl_nI (by omega), cl_nI (by omega)]
      simp only [F_X8_share, C.ob, F_X8_share_b, versionOf_t w C hk, versionOf_t w C hj, Option.bind_some, if_neg (rD_ne _)]
      have := share_loopx w C hk hj am_F 0 (by omega) (by show _ < 0 + 100000; omega)
      rw [share_count w hk (rl S k) (Nat.le_refl _)] at this
      exact this
    · rw [if_neg (fun q => hu q.2)]
      simp only [F_X8_share, C.ob, F_X8_share_b, F_X8_share_22, versionOf_t w C hk, versionOf_f w C hu, Option.bind_some, if_neg (rD_ne _), if_true]
  · rw [if_neg (fun q => hv q.1)]
    by_cases hu : vd (nv S) u
    · obtain ⟨j, hj, rfl⟩ := nI_of_toInt hu.1 hu.2
      simp only [F_X8_share, C.ob, F_X8_share_b, F_X8_share_22, versionOf_f w C hv, versionOf_t w C hj, Option.bind_some, if_true]
    · simp only [F_X8_share, C.ob, F_X8_share_b, F_X8_share_22, versionOf_f w C hv, versionOf_f w C hu, Option.bind_some, if_true]
/-! sums -/
theorem lt_lit {x : Int32} {n : Nat} (hn : n < 2 ^ 31) : (x < nI n ↔ x.toInt < n) ∧ (nI n < x ↔ (n : Int) < x.toInt) ∧ (x ≤ nI n ↔ x.toInt ≤ n) ∧ (nI n ≤ x ↔ (n : Int) ≤ x.toInt) := by
  rw [Int32.lt_iff_toInt_lt, Int32.lt_iff_toInt_lt, Int32.le_iff_toInt_le, Int32.le_iff_toInt_le, nI_toInt hn]
  exact ⟨Iff.rfl, Iff.rfl, Iff.rfl, Iff.rfl⟩
theorem x_sums (w : WF S) (C : RX Z S pb pv h) (v x k : Int32) : F_X8_sums 1 v x k h = some (sp_sums S v x k) := by
  unfold sp_sums
  by_cases hv : vd (nv S) v
  · obtain ⟨j, hj, rfl⟩ := nI_of_toInt hv.1 hv.2
    have hn := w.2.2.2.1
    have V := C.2.2.2.2.2.2.1 j hj
    obtain ⟨f1, hf1, hg1⟩ := V.2.2.1
    obtain ⟨f2, hf2, hg2⟩ := V.2.2.2
    rw [if_pos hv, cl_nI (show j < 2 ^ 31 by omega)]
    simp only [F_X8_sums, C.ob, F_X8_sums_b, F_X8_sums_34, F_X8_sums_62, versionOf_t w C hj, Option.bind_some, if_neg (rD_ne _), V.f]
    have a0 : (x < (0 : Int32)) ↔ x.toInt < 0 := (lt_lit (x := x) (n := 0) (by decide)).1
    have a1 : ((1 : Int32) < x) ↔ 1 < x.toInt := (lt_lit (x := x) (n := 1) (by decide)).2.1
    have b0 : (k < (0 : Int32)) ↔ k.toInt < 0 := (lt_lit (x := k) (n := 0) (by decide)).1
    have b1 : (k < (24 : Int32)) ↔ k.toInt < 24 := (lt_lit (x := k) (n := 24) (by decide)).1
    by_cases c1 : x.toInt < 0
    · rw [if_pos (a0.mpr c1), if_neg (fun q => by omega)]
    · rw [if_neg (fun q => c1 (a0.mp q))]
      by_cases c2 : 1 < x.toInt
      · rw [if_pos (a1.mpr c2), if_neg (fun q => by omega)]
      · rw [if_neg (fun q => c2 (a1.mp q))]
        by_cases c3 : k.toInt < 0
        · rw [if_pos (b0.mpr c3), if_neg (fun q => by omega)]
        · rw [if_neg (fun q => c3 (b0.mp q))]
          by_cases c4 : k.toInt < 24
          · rw [if_pos (b1.mpr c4), if_pos (show (0 ≤ x.toInt ∧ x.toInt ≤ 1) ∧ 0 ≤ k.toInt ∧ k.toInt ≤ 23 by omega)]
            obtain ⟨q, hq, rfl⟩ := nI_of_toInt (n := 24) (v := k) (by omega) c4
            rw [row_at hf1 hq, row_at hf2 hq, hg1 q hq, hg2 q hq, cl_nI (by omega)]
            by_cases c5 : x = 0
            · rw [if_pos c5, if_pos c5]; rfl
            · rw [if_neg c5, if_neg c5]; rfl
          · rw [if_neg (fun q => c4 (b1.mp q)), if_neg (fun q => by omega)]
  · rw [if_neg hv]
    simp only [F_X8_sums, C.ob, F_X8_sums_b, versionOf_f w C hv, Option.bind_some, if_true]
/-! entropy -/
theorem times_loop {a cap n : Nat} {f : Nat → Int32} (r : RowAt h a cap n f) (x : Int32) : ∀ (m k i : Nat), i + k = n → k < m → F_X4_timesWithin_6 m a x (nI n) (nI (cntN (fun i => f i == x) i)) (nI i) h = some (nI (cntN (fun i => f i == x) n))
  | 0, k, i, h1, h2 => by omega
  | m + 1, 0, i, h1, h2 => by
    have h3 := r.2
    rw [F_X4_timesWithin_6, if_pos (nI_le (by omega) (by omega)), show i = n by omega]
  | m + 1, k + 1, i, h1, h2 => by
    have h3 := r.2
    have ih := times_loop r x m k (i + 1) (by omega) (by omega)
    rw [show cntN (fun i => f i == x) (i + 1) = cntN (fun i => f i == x) i + bN (f i == x) from rfl] at ih
    rw [F_X4_timesWithin_6, if_neg (nI_ge (by omega) (by omega))]
    simp only [row_at r (show i < n by omega), Option.bind_some, F_X4_timesWithin_25, nI_1]
    by_cases e : f i = x
    · have : (f i == x) = true := by simpa using e
      rw [if_pos e]; rw [this] at ih; exact ih
    · have : (f i == x) = false := by simpa using e
      rw [if_neg e]; rw [this] at ih; exact ih
theorem row_times {a cap n : Nat} {f : Nat → Int32} (r : RowAt h a cap n f) (x : Int32) : F_X4_times a x h = some (nI (cntN (fun i => f i == x) n)) := by
  have h3 := r.2
  have := times_loop r x am_F n 0 (by omega) (by show n < 100000; omega)
  simp only [F_X4_times, F_X4_times_b, F_X4_timesWithin, F_X4_timesWithin_b, r.1.1, r.gi, Option.bind_some]
  rw [show (0 : Int32) = nI 0 from rfl, show nI 0 = nI (cntN (fun i => f i == x) 0) from rfl] at *
  rw [this]
  rfl
end CL2
