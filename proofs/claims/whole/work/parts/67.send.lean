/-! send: what one side lacks -/
theorem jmax {a b : Nat} (ha : a < 2 ^ 31) (hb : b < 2 ^ 31) (h : am_H) : F_J9_max_7cf53 (nI a) (nI b) h = some (nI (if a < b then b else a)) := by
  simp only [F_J9_max_7cf53, F_J9_max_7cf53_b, F_J9_max_7cf53_10]
  by_cases c : a < b
  · rw [if_pos (nI_lt c hb), if_pos c]
  · rw [if_neg (nI_nlt (by omega) ha), if_neg c]
theorem jmin {a b : Nat} (ha : a < 2 ^ 31) (hb : b < 2 ^ 31) (h : am_H) : F_J9_min_7cf53 (nI a) (nI b) h = some (nI (if b < a then b else a)) := by
  simp only [F_J9_min_7cf53, F_J9_min_7cf53_b, F_J9_min_7cf53_10]
  by_cases c : b < a
  · rw [if_pos (nI_lt c ha), if_pos c]
  · rw [if_neg (nI_nlt (by omega) hb), if_neg c]
theorem Rws.set {h : am_H} {a N M i j : Nat} {T : Nat → Nat → Int32} (r : Rws h a N M T) (hi : i < N) (hj : j < M) (hM : M < 2 ^ 31) (x : Int32) : ∃ h', am_is 0 (a + 1 + i) (nI j) x h = some h' ∧ Rws h' a N M (upA T i j x) ∧ Fr (fun q => q = a + 1 + i) h h' := by
  obtain ⟨g, e, hg⟩ := r
  obtain ⟨h', e', i', F⟩ := ia_set (hg i hi).2 hj hM x
  refine ⟨h', e', ⟨g, (ra_at (F.2.2 _ (by omega))).trans e, fun k hk => ⟨(hg k hk).1, ?_⟩⟩, F⟩
  by_cases c : k = i
  · subst c
    rw [i']
    unfold upA
    rw [if_pos rfl]
  · rw [ia_at (F.2.2 _ (by omega)), (hg k hk).2]
    unfold upA
    rw [if_neg c]
/-! the longest common row, and how far two rows are apart -/
def lc (a b : Nat → Nat) : Nat → Nat → Nat
  | 0, _ => 0
  | _ + 1, 0 => 0
  | i + 1, j + 1 => if a i = b j then lc a b i j + 1 else if lc a b i (j + 1) < lc a b (i + 1) j then lc a b (i + 1) j else lc a b i (j + 1)
termination_by i j => i + j
def ds (a b : Nat → Nat) : Nat → Nat → Nat
  | 0, j => j
  | i + 1, 0 => i + 1
  | i + 1, j + 1 => if a i = b j ∧ ds a b i j < (if ds a b (i + 1) j + 1 ≤ ds a b i (j + 1) + 1 then ds a b (i + 1) j + 1 else ds a b i (j + 1) + 1) then ds a b i j else (if ds a b (i + 1) j + 1 ≤ ds a b i (j + 1) + 1 then ds a b (i + 1) j + 1 else ds a b i (j + 1) + 1)
termination_by i j => i + j
section LC
variable {a b : Nat → Nat}
theorem lc_0 (j : Nat) : lc a b 0 j = 0 := by rw [lc]
theorem lc_00 (i : Nat) : lc a b i 0 = 0 := by cases i <;> rw [lc]
theorem lc_s (i j : Nat) : lc a b (i + 1) (j + 1) = if a i = b j then lc a b i j + 1 else if lc a b i (j + 1) < lc a b (i + 1) j then lc a b (i + 1) j else lc a b i (j + 1) := by rw [lc]
theorem ds_0 (j : Nat) : ds a b 0 j = j := by rw [ds]
theorem ds_00 (i : Nat) : ds a b i 0 = i := by cases i <;> rw [ds]
theorem ds_s (i j : Nat) : ds a b (i + 1) (j + 1) = if a i = b j ∧ ds a b i j < (if ds a b (i + 1) j + 1 ≤ ds a b i (j + 1) + 1 then ds a b (i + 1) j + 1 else ds a b i (j + 1) + 1) then ds a b i j else (if ds a b (i + 1) j + 1 ≤ ds a b i (j + 1) + 1 then ds a b (i + 1) j + 1 else ds a b i (j + 1) + 1) := by rw [ds]
theorem lc_lip : ∀ s i j, i + j = s → (lc a b i (j + 1) ≤ lc a b i j + 1 ∧ lc a b i j ≤ lc a b i (j + 1)) ∧ (lc a b (i + 1) j ≤ lc a b i j + 1 ∧ lc a b i j ≤ lc a b (i + 1) j) := by
  intro s
  induction s using Nat.strongRecOn with
  | ind s ih =>
    intro i j e
    constructor
    · cases i with
      | zero => rw [lc_0, lc_0]; omega
      | succ i =>
        rw [lc_s]
        have q := (ih (i + j) (by omega) i j rfl)
        by_cases c : a i = b j
        · rw [if_pos c]; omega
        · rw [if_neg c]
          split <;> omega
    · cases j with
      | zero => rw [lc_00, lc_00]; omega
      | succ j =>
        rw [lc_s]
        have q := (ih (i + j) (by omega) i j rfl)
        by_cases c : a i = b j
        · rw [if_pos c]; omega
        · rw [if_neg c]
          split <;> omega
theorem ds_lc : ∀ s i j, i + j = s → ds a b i j + 2 * lc a b i j = i + j := by
  intro s
  induction s using Nat.strongRecOn with
  | ind s ih =>
    intro i j e
    cases i with
    | zero => rw [ds_0, lc_0]; omega
    | succ i =>
      cases j with
      | zero => rw [ds_00, lc_00]
      | succ j =>
        have h1 := ih (i + j) (by omega) i j rfl
        have h2 := ih (i + 1 + j) (by omega) (i + 1) j rfl
        have h3 := ih (i + (j + 1)) (by omega) i (j + 1) rfl
        have q := (lc_lip (a := a) (b := b) (i + j) i j rfl)
        rw [ds_s, lc_s]
        by_cases c : a i = b j
        · rw [if_pos c]
          by_cases c2 : ds a b i j < (if ds a b (i + 1) j + 1 ≤ ds a b i (j + 1) + 1 then ds a b (i + 1) j + 1 else ds a b i (j + 1) + 1)
          · rw [if_pos ⟨c, c2⟩]; omega
          · rw [if_neg (fun q => c2 q.2)]
            by_cases c3 : ds a b (i + 1) j + 1 ≤ ds a b i (j + 1) + 1
            · rw [if_pos c3] at c2 ⊢; omega
            · rw [if_neg c3] at c2 ⊢; omega
        · rw [if_neg c, if_neg (fun q => c q.1)]
          by_cases c3 : ds a b (i + 1) j + 1 ≤ ds a b i (j + 1) + 1
          · rw [if_pos c3]
            by_cases c4 : lc a b i (j + 1) < lc a b (i + 1) j
            · rw [if_pos c4]; omega
            · rw [if_neg c4]; omega
          · rw [if_neg c3]
            by_cases c4 : lc a b i (j + 1) < lc a b (i + 1) j
            · rw [if_pos c4]; omega
            · rw [if_neg c4]; omega
end LC
/-- the i-th block of u goes whole to one that has v -/
def goesB (S : sS) (v u i : Nat) : Bool := !(hasB S v (rw_ S u i)) && !(anyN (fun j => rw_ S u j == rw_ S u i) i)
def sp_send (S : sS) (v u x : Int32) : Int32 := if vd (nv S) v ∧ vd (nv S) u then (if x = 0 then nI (sumN (fun i => if goesB S v.toNatClampNeg u.toNatClampNeg i = true then 4 * ln S (rw_ S u.toNatClampNeg i) + 3 else 4) (rl S u.toNatClampNeg)) else if x = 1 then nI (cntN (goesB S v.toNatClampNeg u.toNatClampNeg) (rl S u.toNatClampNeg)) else if x = 2 then nI (ds (rw_ S v.toNatClampNeg) (rw_ S u.toNatClampNeg) (rl S v.toNatClampNeg) (rl S u.toNatClampNeg)) else -100002) else -100001
section SX
variable {Z : sZ} {S : sS} {pb pv : Nat → Nat} {h : am_H}
theorem goes_t (w : WF S) (C : RX Z S pb pv h) {v u i : Nat} (hv : v < nv S) (hu : u < nv S) (hi : i < rl S u) : F_X8_goesWhole (rD (pv v)) (rD (pv u)) (nI i) h = some (bI (goesB S v u i)) := by
  have hw := (w.2.2.2.2 u hu).1
  have hn := w.2.2.1.1
  have V := C.2.2.2.2.2.2.1 u hu
  obtain ⟨f, hf, hf2⟩ := V.2.1
  have hb := hw.2 i hi
  have hq := fstF_eq f (nI (rw_ S u i)) (rl S u) 0 i (by omega) (by omega)
  have hle := fstF_le f (nI (rw_ S u i)) (rl S u) 0
  have hne : ¬ fstF f (nI (rw_ S u i)) (rl S u) 0 = rl S u := fun e => (fstF_any f (nI (rw_ S u i)) (rl S u) 0).mp (by omega) i (by omega) (by omega) (hf2 i hi)
  have hnI : (nI (fstF f (nI (rw_ S u i)) (rl S u) 0) = nI i) ↔ fstF f (nI (rw_ S u i)) (rl S u) 0 = i := nI_eq (by omega) (by omega)
  simp only [F_X8_goesWhole, F_X8_goesWhole_b, F_X8_goesWhole_36, F_X8_goesWhole_37, V.f.1, (C.2.2.2.2.2.2.1 v hv).f.1, Option.bind_some, row_at hf hi, hf2 i hi, ver_has w C hv (show rw_ S u i < 200 by omega), bI_0, row_firstOf hf, if_neg hne]
  unfold goesB
  cases ht : hasB S v (rw_ S u i) with
  | true => rfl
  | false =>
    rw [if_pos rfl]
    cases ha : anyN (fun j => rw_ S u j == rw_ S u i) i with
    | true =>
      rw [if_neg]
      · rfl
      · intro e
        obtain ⟨j, j1, j2⟩ := anyN_t.mp ha
        have := (hq.mp (hnI.mp e)).2 j (by omega) j1
        rw [hf2 j (by omega)] at this
        exact this (by rw [show rw_ S u j = rw_ S u i by simpa using j2])
    | false =>
      rw [if_pos]
      · rfl
      · refine hnI.mpr (hq.mpr ⟨hf2 i hi, fun j _ j2 e => ?_⟩)
        rw [hf2 j (by omega)] at e
        have h5 := hw.2 j (by omega)
        have h6 := (nI_eq (by omega) (by omega)).mp e
        have := (anyN_f i).mp ha j j2
        rw [h6] at this
        simp at this
theorem sentBits_loop (w : WF S) (C : RX Z S pb pv h) {v u : Nat} (hv : v < nv S) (hu : u < nv S) : ∀ (m i : Nat), i ≤ rl S u → rl S u < i + m → F_X8_sentBits_5 m 1 (rD (pv v)) (rD (pv u)) (nI (sumN (fun i => if goesB S v u i = true then 4 * ln S (rw_ S u i) + 3 else 4) i)) (nI i) h = some (nI (sumN (fun i => if goesB S v u i = true then 4 * ln S (rw_ S u i) + 3 else 4) (rl S u)))
  | 0, i, h1, h2 => by omega
  | m + 1, i, h1, h2 => by
    have hw := (w.2.2.2.2 u hu).1
    have V := C.2.2.2.2.2.2.1 u hu
    obtain ⟨f, hf, hf2⟩ := V.2.1
    rw [F_X8_sentBits_5]
    simp only [V.f.1, Option.bind_some, row_length hf]
    by_cases hc : rl S u ≤ i
    · rw [if_pos (nI_le hc (by omega)), show i = rl S u by omega]
    · have hi : i < rl S u := by omega
      have ih := sentBits_loop w C hv hu m (i + 1) (by omega) (by omega)
      rw [if_neg (nI_ge (by omega) (by omega))]
      simp only [goes_t w C hv hu hi, Option.bind_some, bI_0, lengthIn_t w C hu hi, F_X8_sentBits_43, nI_1]
      rw [show sumN (fun i => if goesB S v u i = true then 4 * ln S (rw_ S u i) + 3 else 4) (i + 1) = sumN (fun i => if goesB S v u i = true then 4 * ln S (rw_ S u i) + 3 else 4) i + (if goesB S v u i = true then 4 * ln S (rw_ S u i) + 3 else 4) from rfl] at ih
      cases hg : goesB S v u i with
      | true =>
        rw [hg, if_pos rfl] at ih
        rw [if_neg (by decide), show (4 : Int32) * nI (ln S (rw_ S u i)) + 3 = nI (4 * ln S (rw_ S u i) + 3) by rw [lit, nI_mulN, lit, nI_add], nI_add]
        exact ih
      | false =>
        rw [hg, if_neg (by decide)] at ih
        rw [if_pos rfl, show (4 : Int32) = nI 4 from rfl, nI_add]
        exact ih
theorem sentWhole_loop (w : WF S) (C : RX Z S pb pv h) {v u : Nat} (hv : v < nv S) (hu : u < nv S) : ∀ (m i : Nat), i ≤ rl S u → rl S u < i + m → F_X8_sentWhole_4 m (rD (pv v)) (rD (pv u)) (nI (cntN (goesB S v u) i)) (nI i) h = some (nI (cntN (goesB S v u) (rl S u)))
  | 0, i, h1, h2 => by omega
  | m + 1, i, h1, h2 => by
    have hw := (w.2.2.2.2 u hu).1
    have V := C.2.2.2.2.2.2.1 u hu
    obtain ⟨f, hf, hf2⟩ := V.2.1
    rw [F_X8_sentWhole_4]
    simp only [V.f.1, Option.bind_some, row_length hf]
    by_cases hc : rl S u ≤ i
    · rw [if_pos (nI_le hc (by omega)), show i = rl S u by omega]
    · have hi : i < rl S u := by omega
      have ih := sentWhole_loop w C hv hu m (i + 1) (by omega) (by omega)
      rw [show cntN (goesB S v u) (i + 1) = cntN (goesB S v u) i + bN (goesB S v u i) from rfl] at ih
      rw [if_neg (nI_ge (by omega) (by omega))]
      simp only [goes_t w C hv hu hi, Option.bind_some, bI_0, F_X8_sentWhole_27, nI_1]
      cases hg : goesB S v u i with
      | true => rw [hg] at ih; exact ih
      | false => rw [hg] at ih; exact ih
/-! the table -/
def Tab (a b : Nat → Nat) (n m i j : Nat) (T : Nat → Nat → Int32) : Prop := ∀ r c, r ≤ n → c ≤ m → (r < i ∨ (r = i ∧ c < j) ∨ c = 0) → T r c = nI (lc a b r c)
theorem com_in {K : Nat → Nat → Nat → Int32 → Int32 → Int32 → am_H → Option (Int32 × am_H)} {a b : Nat → Nat} {x y n m i : Nat} (hn : n ≤ 8) (hm : m ≤ 8) (hi : i < n) (ha : ∀ k, k < n → a k < 200) (hb : ∀ k, k < m → b k < 200) : ∀ (q k j : Nat) (h : am_H) (T : Nat → Nat → Int32), j + k = m → k < q → am_gr 8 10 1 h = some 14 → (∃ f, RowAt h x n n f ∧ ∀ k, k < n → f k = nI (a k)) → (∃ f, RowAt h y m m f ∧ ∀ k, k < m → f k = nI (b k)) → 116 ≤ x → 116 ≤ y → Rws h 14 9 9 T → (∀ c, c < 9 → T 0 c = 0) → (∀ r, r < 9 → T r 0 = 0) → Tab a b n m (i + 1) (j + 1) T →
    ∃ h' T', F_X8_inCommon_33 K q 1 x y (nI n) (nI m) (nI (i + 1)) (nI (j + 1)) h = K 1 x y (nI n) (nI m) (nI (i + 1 + 1)) h' ∧ Fr (fun r => 15 ≤ r ∧ r < 24) h h' ∧ Rws h' 14 9 9 T' ∧ (∀ c, c < 9 → T' 0 c = 0) ∧ (∀ r, r < 9 → T' r 0 = 0) ∧ Tab a b n m (i + 1 + 1) 1 T'
  | 0, k, j, h, T, h1, h2, g, r1, r2, x1, x2, t0, t1, t2, t3 => by omega
  | q + 1, 0, j, h, T, h1, h2, g, r1, r2, x1, x2, t0, t1, t2, t3 => by
    rw [F_X8_inCommon_33, if_pos (nI_lt (by omega) (by omega)), nI_1]
    exact ⟨h, T, rfl, Fr.rf, t0, t1, t2, fun r c hr hc hz => t3 r c hr hc (by omega)⟩
  | q + 1, k + 1, j, h, T, h1, h2, g, r1, r2, x1, x2, t0, t1, t2, t3 => by
    obtain ⟨f1, p1, e1⟩ := r1
    obtain ⟨f2, p2, e2⟩ := r2
    have hj : j < m := by omega
    have eT : ∀ X : Int32, ∃ h', am_is 0 (14 + 1 + (i + 1)) (nI (j + 1)) X h = some h' ∧ Rws h' 14 9 9 (upA T (i + 1) (j + 1) X) ∧ Fr (fun q => q = 14 + 1 + (i + 1)) h h' := fun X => t0.set (by omega) (by omega) (by decide) X
    have key : ∀ X : Int32, X = nI (lc a b (i + 1) (j + 1)) → ∃ h' T', F_X8_inCommon_114 K (F_X8_inCommon_33 K q) 1 x y (nI n) (nI m) (nI (i + 1)) (nI (j + 1)) (14 + 1 + (i + 1)) (nI (j + 1)) X h = K 1 x y (nI n) (nI m) (nI (i + 1 + 1)) h' ∧ Fr (fun r => 15 ≤ r ∧ r < 24) h h' ∧ Rws h' 14 9 9 T' ∧ (∀ c, c < 9 → T' 0 c = 0) ∧ (∀ r, r < 9 → T' r 0 = 0) ∧ Tab a b n m (i + 1 + 1) 1 T' := by
      intro X hX
      obtain ⟨h', e', t', F'⟩ := eT X
      simp only [F_X8_inCommon_114, e', Option.bind_some, nI_1]
      obtain ⟨h2, T2, e3, F3, u⟩ := com_in (K := K) hn hm hi ha hb q k (j + 1) h' (upA T (i + 1) (j + 1) X) (by omega) (by omega)
        (by rw [← g]; unfold am_gr; rw [obj_at (F'.2.2 _ (by omega))])
        ⟨f1, p1.fr F' (by omega) (by omega), e1⟩ ⟨f2, p2.fr F' (by omega) (by omega), e2⟩ x1 x2 t'
        (fun c hc => by unfold upA; rw [if_neg (by omega)]; exact t1 c hc)
        (fun r hr => by
          unfold upA
          by_cases z : r = i + 1
          · rw [if_pos z]; unfold upd; rw [if_neg (by omega), ← z]; exact t2 r hr
          · rw [if_neg z]; exact t2 r hr)
        (fun r c hr hc hz => by
          unfold upA
          by_cases z : r = i + 1
          · rw [if_pos z]
            unfold upd
            by_cases z2 : c = j + 1
            · rw [if_pos z2, hX, z, z2]
            · rw [if_neg z2, ← z]; exact t3 r c hr hc (by omega)
          · rw [if_neg z]; exact t3 r c hr hc (by omega))
      exact ⟨h2, T2, e3, F'.tr F3 (fun r hr => by omega) (fun r hr => hr), u⟩
    rw [F_X8_inCommon_33, if_neg (nI_nlt (by omega) (by omega)), pre_nI, pre_nI]
    simp only [g, Option.bind_some, t0.al (show i + 1 < 9 by omega) (by decide), t0.al (show i < 9 by omega) (by decide), row_at p1 hi, row_at p2 hj, e1 i hi, e2 j hj, t0.il (show i < 9 by omega) (show j < 9 by omega) (by decide), t0.il (show i < 9 by omega) (show j + 1 < 9 by omega) (by decide), t0.il (show i + 1 < 9 by omega) (show j < 9 by omega) (by decide), nI_eq (show a i < 2 ^ 31 by have := ha i hi; omega) (show b j < 2 ^ 31 by have := hb j hj; omega)]
    have hl : ∀ r c, r ≤ 8 → c ≤ 8 → lc a b r c ≤ 16 := fun r c hr hc => by have := ds_lc (a := a) (b := b) (r + c) r c rfl; omega
    rw [t3 i j (by omega) (by omega) (by omega), t3 i (j + 1) (by omega) (by omega) (by omega), t3 (i + 1) j (by omega) (by omega) (by omega), jmax (by have := hl i (j + 1) (by omega) (by omega); omega) (by have := hl (i + 1) j (by omega) (by omega); omega), nI_1]
    by_cases c : a i = b j
    · rw [if_pos c]
      exact key _ (by rw [lc_s, if_pos c])
    · rw [if_neg c]
      exact key _ (by rw [lc_s, if_neg c])
theorem com_out {a b : Nat → Nat} {x y n m : Nat} (hn : n ≤ 8) (hm : m ≤ 8) (ha : ∀ k, k < n → a k < 200) (hb : ∀ k, k < m → b k < 200) (x1 : 116 ≤ x) (x2 : 116 ≤ y) : ∀ (q k i : Nat) (h : am_H) (T : Nat → Nat → Int32), i + k = n → k < q → am_gr 8 10 1 h = some 14 → (∃ f, RowAt h x n n f ∧ ∀ k, k < n → f k = nI (a k)) → (∃ f, RowAt h y m m f ∧ ∀ k, k < m → f k = nI (b k)) → Rws h 14 9 9 T → (∀ c, c < 9 → T 0 c = 0) → (∀ r, r < 9 → T r 0 = 0) → Tab a b n m (i + 1) 1 T →
    ∃ h' T', F_X8_inCommon_24 q 1 x y (nI n) (nI m) (nI (i + 1)) h = some (nI (lc a b n m), h') ∧ Fr (fun r => 15 ≤ r ∧ r < 24) h h' ∧ Rws h' 14 9 9 T' ∧ (∀ c, c < 9 → T' 0 c = 0) ∧ (∀ r, r < 9 → T' r 0 = 0)
  | 0, k, i, h, T, h1, h2, g, r1, r2, t0, t1, t2, t3 => by omega
  | q + 1, 0, i, h, T, h1, h2, g, r1, r2, t0, t1, t2, t3 => by
    rw [F_X8_inCommon_24, if_pos (nI_lt (by omega) (by omega))]
    simp only [g, Option.bind_some, t0.al (show n < 9 by omega) (by decide), t0.il (show n < 9 by omega) (show m < 9 by omega) (by decide), t3 n m (by omega) (by omega) (by omega)]
    exact ⟨h, T, rfl, Fr.rf, t0, t1, t2⟩
  | q + 1, k + 1, i, h, T, h1, h2, g, r1, r2, t0, t1, t2, t3 => by
    rw [F_X8_inCommon_24, if_neg (nI_nlt (by omega) (by omega))]
    obtain ⟨h', T', e, F, u0, u1, u2, u3⟩ := com_in (K := F_X8_inCommon_24 q) (a := a) (b := b) hn hm (show i < n by omega) ha hb am_F m 0 h T (by omega) (by show _ < 100000; omega) g r1 r2 x1 x2 t0 t1 t2 t3
    obtain ⟨f1, p1, e1⟩ := r1
    obtain ⟨f2, p2, e2⟩ := r2
    obtain ⟨h2, T2, e3, F3, v⟩ := com_out hn hm ha hb x1 x2 q k (i + 1) h' T' (by omega) (by omega) (by rw [← g]; unfold am_gr; rw [obj_at (F.2.2 _ (by omega))]) ⟨f1, p1.fr F (by omega) (by omega), e1⟩ ⟨f2, p2.fr F (by omega) (by omega), e2⟩ u0 u1 u2 u3
    exact ⟨h2, T2, e.trans e3, F.tr F3 (fun r hr => hr) (fun r hr => hr), v⟩
theorem inCommon_t (w : WF S) (C : RX Z S pb pv h) {v u : Nat} (hv : v < nv S) (hu : u < nv S) : ∃ h', F_X8_inCommon 1 (rD (pv v) + 5) (rD (pv u) + 5) h = some (nI (lc (rw_ S v) (rw_ S u) (rl S v) (rl S u)), h') ∧ Fr (fun r => 15 ≤ r ∧ r < 24) h h' ∧ RX Z S pb pv h' := by
  have hw := (w.2.2.2.2 v hv).1
  have hw2 := (w.2.2.2.2 u hu).1
  have hn := w.2.2.1.1
  have V := (C.2.2.2.2.2.2.1 v hv).2.1
  have U := (C.2.2.2.2.2.2.1 u hu).2.1
  obtain ⟨f, hf, hf2⟩ := V
  obtain ⟨f', hf', hf2'⟩ := U
  obtain ⟨s1, s2, s3, ⟨T, t0, t1, t2⟩, s5⟩ := C.2.2.2.2.2.2.2.1
  obtain ⟨h', T', e, F, u0, u1, u2⟩ := com_out (a := rw_ S v) (b := rw_ S u) hw.1 hw2.1 (fun k hk => by have := hw.2 k hk; omega) (fun k hk => by have := hw2.2 k hk; omega) (show 116 ≤ rD (pv v) + 5 by unfold rD; omega) (show 116 ≤ rD (pv u) + 5 by unfold rD; omega) am_F (rl S v) 0 h T (by omega) (by show _ < 100000; omega) (C.gr (k := 10) (x := 14) (fun _ => rfl)) ⟨f, hf, hf2⟩ ⟨f', hf', hf2'⟩ t0 t1 t2 (fun r c hr hc hz => by
    by_cases z : r = 0
    · rw [z, lc_0, t1 c (by omega)]; rfl
    · rw [show c = 0 by omega, lc_00, t2 r (by omega)]; rfl)
  refine ⟨h', ?_, F, ?_⟩
  · simp only [F_X8_inCommon, C.ob, F_X8_inCommon_b, row_length hf, row_length hf', Option.bind_some]
    rw [show (8 : Int32) = nI 8 from rfl, jmin (by omega) (by decide), jmin (by omega) (by decide), if_neg (by omega), if_neg (by omega)]
    exact e
  · obtain ⟨k1, k2, k3, k4, k5, k6, k7, -, k9, k10⟩ := C
    have G := F.mono (T := fun r => 15 ≤ r ∧ r < 24) (fun _ q => q)
    obtain ⟨pn, k1⟩ := k1
    obtain ⟨f2, a2, b2⟩ := k2
    obtain ⟨f3, a3, b3⟩ := k3
    obtain ⟨f4, a4, b4⟩ := k4
    obtain ⟨f5, a5, b5⟩ := k5
    obtain ⟨m1, m2, m3, m4, m5⟩ := s5
    obtain ⟨n1, n2, n3, n4, n5⟩ := m1
    have S' : Scr h' := by
      have ho : ∀ q, q < 15 ∨ 24 ≤ q → am_at h' q = am_at h q := fun q hq => F.2.2 q (by omega)
      obtain ⟨⟨a, b, c, z1⟩, z2, ⟨gg, z3, z4⟩, z5⟩ := m2
      obtain ⟨⟨a', b', c', o1⟩, o2, o3⟩ := m3
      obtain ⟨⟨ta, y1⟩, y2, y3, y4, y5⟩ := m4
      obtain ⟨⟨ca, cb, x1⟩, x2, x3, ⟨TC, x4⟩, x6⟩ := m5
      exact ⟨bRow s1 F (by omega) (by omega), bRow s2 F (by omega) (by omega), bRow s3 F (by omega) (by omega), ⟨T', u0, u1, u2⟩, ⟨(obj_at (ho _ (by omega))).trans n1, bIa n2 F (by omega), bIa n3 F (by omega), bIa n4 F (by omega), bRow n5 F (by omega) (by omega)⟩, ⟨⟨a, b, c, (obj_at (ho _ (by omega))).trans z1⟩, bRow z2 F (by omega) (by omega), ⟨gg, (ra_at (ho _ (by omega))).trans z3, fun k hk => ⟨(z4 k hk).1, bRow (z4 k hk).2 F (by omega) (by omega)⟩⟩, bRow z5 F (by omega) (by omega)⟩, ⟨⟨a', b', c', (obj_at (ho _ (by omega))).trans o1⟩, bIa o2 F (by omega), bRow o3 F (by omega) (by omega)⟩, ⟨⟨ta, (obj_at (ho _ (by omega))).trans y1⟩, bIa y2 F (by omega), bIa y3 F (by omega), bRow y4 F (by omega) (by omega), bRow y5 F (by omega) (by omega)⟩, ⟨⟨ca, cb, (obj_at (ho _ (by omega))).trans x1⟩, bRow x2 F (by omega) (by omega), bRow x3 F (by omega) (by omega), ⟨TC, x4.fr F (fun q q1 q2 => by omega)⟩, bRow x6 F (by omega) (by omega)⟩⟩
    exact ⟨⟨pn, (obj_at (F.2.2 _ (by omega))).trans k1⟩, ⟨f2, a2.fr F (by omega) (by omega), b2⟩, ⟨f3, a3.fr F (by omega) (by omega), b3⟩, ⟨f4, (ra_at (F.2.2 _ (by omega))).trans a4, b4⟩, ⟨f5, (ra_at (F.2.2 _ (by omega))).trans a5, b5⟩, fun b hb => (k6 b hb).fr F (fun q q1 _ => by unfold rD at q1; omega), fun v hv => (k7 v hv).fr F (fun q q1 _ => by unfold rD at q1; omega), S', k9, F.1.trans k10⟩
theorem x_send (w : WF S) (C : RX Z S pb pv h) (v u x : Int32) : ∃ h', F_X8_send 1 v u x h = some (sp_send S v u x, h') ∧ Fr (fun r => 15 ≤ r ∧ r < 24) h h' ∧ RX Z S pb pv h' := by
  unfold sp_send
  by_cases hv : vd (nv S) v
  · obtain ⟨k, hk, rfl⟩ := nI_of_toInt hv.1 hv.2
    by_cases hu : vd (nv S) u
    · obtain ⟨j, hj, rfl⟩ := nI_of_toInt hu.1 hu.2
      have hn := w.2.2.2.1
      have hw := (w.2.2.2.2 k hk).1
      have hw2 := (w.2.2.2.2 j hj).1
      have V := C.2.2.2.2.2.2.1 k hk
      have U := C.2.2.2.2.2.2.1 j hj
      obtain ⟨f, hf, hf2⟩ := V.2.1
      obtain ⟨f', hf', hf2'⟩ := U.2.1
      rw [if_pos (show vd (nv S) (nI k) ∧ vd (nv S) (nI j) from ⟨hv, hu⟩), cl_nI (by omega), cl_nI (by omega)]
      simp only [F_X8_send, C.ob, F_X8_send_b, versionOf_t w C hk, versionOf_t w C hj, Option.bind_some, if_neg (rD_ne _)]
      by_cases c0 : x = 0
      · rw [if_pos c0, if_pos c0]
        refine ⟨h, ?_, Fr.rf, C⟩
        simp only [F_X8_sentBits, C.ob, F_X8_sentBits_b]
        have := sentBits_loop w C hk hj am_F 0 (by omega) (by show _ < 0 + 100000; omega)
        rw [show (0 : Int32) = nI 0 from rfl]
        rw [show sumN (fun i => if goesB S k j i = true then 4 * ln S (rw_ S j i) + 3 else 4) 0 = 0 from rfl] at this
        rw [this]
        rfl
      · rw [if_neg c0, if_neg c0]
        by_cases c1 : x = 1
        · rw [if_pos c1, if_pos c1]
          refine ⟨h, ?_, Fr.rf, C⟩
          simp only [F_X8_sentWhole, F_X8_sentWhole_b]
          have := sentWhole_loop w C hk hj am_F 0 (by omega) (by show _ < 0 + 100000; omega)
          rw [show (0 : Int32) = nI 0 from rfl]
          rw [show cntN (goesB S k j) 0 = 0 from rfl] at this
          rw [this]
          rfl
        · rw [if_neg c1, if_neg c1]
          by_cases c2 : x = 2
          · rw [if_pos c2, if_pos c2]
            obtain ⟨h', e, F, C'⟩ := inCommon_t w C hk hj
            refine ⟨h', ?_, F, C'⟩
            have hd := ds_lc (a := rw_ S k) (b := rw_ S j) _ (rl S k) (rl S j) rfl
            simp only [V.f.1, U.f.1, Option.bind_some, row_length hf, row_length hf', e, nI_add]
            rw [show (2 : Int32) = nI 2 from rfl, nI_mulN, nI_subN (by omega), show rl S k + rl S j - 2 * lc (rw_ S k) (rw_ S j) (rl S k) (rl S j) = ds (rw_ S k) (rw_ S j) (rl S k) (rl S j) by omega]
          · rw [if_neg c2, if_neg c2]
            exact ⟨h, rfl, Fr.rf, C⟩
    · rw [if_neg (fun q => hu q.2)]
      refine ⟨h, ?_, Fr.rf, C⟩
      simp only [F_X8_send, C.ob, F_X8_send_b, F_X8_send_24, versionOf_t w C hk, versionOf_f w C hu, Option.bind_some, if_neg (rD_ne _), if_true]
  · rw [if_neg (fun q => hv q.1)]
    refine ⟨h, ?_, Fr.rf, C⟩
    by_cases hu : vd (nv S) u
    · obtain ⟨j, hj, rfl⟩ := nI_of_toInt hu.1 hu.2
      simp only [F_X8_send, C.ob, F_X8_send_b, F_X8_send_24, versionOf_f w C hv, versionOf_t w C hj, Option.bind_some, if_true]
    · simp only [F_X8_send, C.ob, F_X8_send_b, F_X8_send_24, versionOf_f w C hv, versionOf_f w C hu, Option.bind_some, if_true]
end SX
