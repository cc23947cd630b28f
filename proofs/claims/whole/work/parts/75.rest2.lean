/-! restore: the class's side -/
theorem sumN_pick {g g' : Nat → Nat} {f : Nat} : ∀ n, f < n → g' f = 0 → (∀ j, j < n → j ≠ f → g' j = g j) → sumN g n = sumN g' n + g f
  | 0, h, _, _ => by omega
  | n + 1, h, h0, hj => by
    simp only [sumN]
    by_cases e : f = n
    · subst e
      rw [sumN_cong f (f := g') (g := g) (fun i hi => hj i (by omega) (by omega)), h0]
      omega
    · have := sumN_pick n (by omega) h0 (fun j h1 h2 => hj j (by omega) h2)
      have h3 := hj n (by omega) (by omega)
      omega
def ivN : Nat → Nat
  | 0 => 0
  | 1 => 1
  | 2 => 9
  | 3 => 6
  | 4 => 13
  | 5 => 7
  | 6 => 3
  | _ => 5
theorem ivN_inv : ∀ d, am_inv d = nI (ivN d)
  | 0 => rfl
  | 1 => rfl
  | 2 => rfl
  | 3 => rfl
  | 4 => rfl
  | 5 => rfl
  | 6 => rfl
  | _ + 7 => rfl
theorem inverse_t {d : Nat} (hd : d < 8) (h : am_H) : F_X8_inverse (nI d) h = some (nI (ivN d)) := by
  unfold F_X8_inverse F_X8_inverse_b F_X8_inverse_20 F_X8_inverse_21
  rw [if_neg (nI_pos (by omega)), if_neg (show ¬ (8 : Int32) ≤ nI d from nI_ge (b := 8) (by omega) (by omega))]
  unfold am_xl
  rw [ix_nI hd (by decide), Option.bind_some, Option.bind_some, ivN_inv]
/-- two unknowns by two sums -/
theorem solve17 {f l : Nat} (hfl : f < l) (hl : l < 8) {x y A B : Int} (hy : 0 ≤ y ∧ y ≤ 16) : (((B + ((f : Int) + 1) * x + ((l : Int) + 1) * y) % 17 - B - ((f : Int) + 1) * ((A + x + y) % 17 - A)) * ((ivN (l - f) : Nat) : Int)) % 17 = y := by
  have hf : f = 0 ∨ f = 1 ∨ f = 2 ∨ f = 3 ∨ f = 4 ∨ f = 5 ∨ f = 6 := by omega
  have hl' : l = 1 ∨ l = 2 ∨ l = 3 ∨ l = 4 ∨ l = 5 ∨ l = 6 ∨ l = 7 := by omega
  rcases hf with rfl | rfl | rfl | rfl | rfl | rfl | rfl <;> rcases hl' with rfl | rfl | rfl | rfl | rfl | rfl | rfl <;> first | (exfalso; omega) | (simp only [Nat.reduceSub, ivN]; omega)
section RX1
variable {Z : sZ} {S : sS} {pb pv : Nat → Nat} {h : am_H}
theorem nextTorn_t (w : WF S) (C : RX Z S pb pv h) {v : Nat} (hv : v < nv S) {i0 : Nat} (h0 : i0 ≤ rl S v) : F_X8_nextTorn 1 (rD (pv v)) (nI i0) h = some (if fst2 (fun j => tn S (rw_ S v j)) (rl S v - i0) i0 = rl S v then -1 else nI (fst2 (fun j => tn S (rw_ S v j)) (rl S v - i0) i0)) := by
  have hw := (w.2.2.2.2 v hv).1
  have V := C.2.2.2.2.2.2.1 v hv
  obtain ⟨f, hf, hf2⟩ := V.2.1
  have loop : ∀ (q k i : Nat), i + k = rl S v → k < q → F_X8_nextTorn_6 q 1 (rD (pv v)) (nI i) h = some (if fst2 (fun j => tn S (rw_ S v j)) k i = rl S v then -1 else nI (fst2 (fun j => tn S (rw_ S v j)) k i)) := by
    intro q
    induction q with
    | zero => intro k i h1 h2; omega
    | succ q ih =>
      intro k i h1 h2
      rw [F_X8_nextTorn_6, V.f.1, Option.bind_some, row_length hf, Option.bind_some]
      cases k with
      | zero =>
        rw [if_pos (nI_le (by omega) (by omega)), show fst2 (fun j => tn S (rw_ S v j)) 0 i = i from rfl, if_pos (by omega)]
      | succ k =>
        rw [if_neg (nI_ge (by omega) (by omega)), isTornIn_t w C hv (show i < rl S v by omega), Option.bind_some]
        unfold fst2
        cases ht : tn S (rw_ S v i) with
        | true =>
          rw [if_neg (show ¬ bI true = 0 by decide), if_pos (rfl : true = true), if_neg (by omega)]
        | false =>
          rw [if_pos (show bI false = 0 from rfl), if_neg (show ¬ false = true by decide), nI_1]
          exact ih k (i + 1) (by omega) (by omega)
  unfold F_X8_nextTorn F_X8_nextTorn_b
  rw [C.ob, show (0 : Int32) = nI 0 from rfl, jmax (by omega) (by omega), Option.bind_some, show (if 0 < i0 then i0 else 0) = i0 by split <;> omega]
  exact loop am_F (rl S v - i0) i0 (by omega) (by show _ < 100000; omega)
theorem num_le (w : WF S) {b k : Nat} (hb : b < nb S) : num S b k ≤ 16 := by
  unfold num
  split
  · next h => have := (w.2.2.1.2 b hb).2 k h; omega
  · exact Nat.le_refl _
theorem numberIn_t (w : WF S) (C : RX Z S pb pv h) {v i k : Nat} (hv : v < nv S) (hi : i < rl S v) (ht : tn S (rw_ S v i) = false) (hk : k < 24) : F_X8_numberIn 1 (rD (pv v)) (nI i) (nI k) h = some (nI (num S (rw_ S v i) k)) := by
  have V := C.2.2.2.2.2.2.1 v hv
  obtain ⟨f, hf, hf2⟩ := V.2.1
  have hb := (w.2.2.2.2 v hv).1.2 i hi
  have B := C.2.2.2.2.2.1 _ hb
  obtain ⟨g, hg, hg2⟩ := B.2.1
  have hl := (w.2.2.1.2 _ hb).1
  unfold F_X8_numberIn F_X8_numberIn_b F_X8_numberIn_22 F_X8_signIn F_X8_signIn_b F_X8_signIn_32 num
  rw [C.ob, C.ob, V.f.1, Option.bind_some, row_at hf hi, Option.bind_some, hf2 i hi, blockOf_t w C hb, Option.bind_some, if_neg (rD_ne _), B.f.1, Option.bind_some]
  by_cases c : k < ln S (rw_ S v i)
  · have h16 := (w.2.2.1.2 _ hb).2 k c
    rw [row_at hg c, Option.bind_some, Option.bind_some, hg2 ht k c, if_neg, if_pos c]
    intro e
    have h6 : nI (sg S (rw_ S v i) k) < 0 := by rw [e]; decide
    exact nI_pos (by omega) h6
  · rw [row_at_out hg (fun q => by have := q.2; rw [nI_toInt (by omega)] at this; omega), Option.bind_some, Option.bind_some, if_pos rfl, if_neg c]
    rfl
/-- what follows the sums -/
def slv (K : Nat → Nat → Int32 → Int32 → Nat → Nat → Int32 → am_H → Option am_H) (a : Nat) (v2 v3 : Int32) (v4 v5 : Nat) (v6 v7 v8 : Int32) (h : am_H) : Option am_H :=
  if v5 = 0 then F_X8_solve_169 K 1 a v2 v3 v4 v5 v6 v7 (0 : Int32) h
  else (F_X8_inverse (v3 - v2) h).bind fun x5 => (F_J9_floorMod_7cf53 ((v8 - ((v2 + (1 : Int32)) * v7)) * x5) (17 : Int32) h).bind fun x6 => (am_gr 0 0 v5 h).bind fun x7 => (F_X4_set x7 v6 x6 h).bind fun h8 => F_X8_solve_169 K 1 a v2 v3 v4 v5 v6 v7 x6 h8
theorem solve_in {K : Nat → Nat → Int32 → Int32 → Nat → Nat → Int32 → am_H → Option am_H} (w : WF S) (C : RX Z S pb pv h) {v f k b4 b5 : Nat} {L : Int32} {ex : Nat → Bool} (hv : v < nv S) (hf : f < rl S v) (hex : ∀ i, i < rl S v → (ex i = true ↔ (i = f ∨ nI i = L))) (hu : ∀ i, i < rl S v → ex i = false → tn S (rw_ S v i) = false) (hk : k < 24) (p t : Int) : ∀ (q j i : Nat), i + j = rl S v → j < q →
    F_X8_solve_63 K q 1 (rD (pv v)) (nI f) L b4 b5 (nI k) (zI (p - (sumN (fun j => if ex j = true then 0 else num S (rw_ S v j) k) i : Nat))) (zI (t - (sumN (fun j => if ex j = true then 0 else (j + 1) * num S (rw_ S v j) k) i : Nat))) (nI i) h = slv K (rD (pv v)) (nI f) L b4 b5 (nI k) (zI (p - (sumN (fun j => if ex j = true then 0 else num S (rw_ S v j) k) (rl S v) : Nat))) (zI (t - (sumN (fun j => if ex j = true then 0 else (j + 1) * num S (rw_ S v j) k) (rl S v) : Nat))) h
  | 0, j, i, h1, h2 => by omega
  | q + 1, 0, i, h1, h2 => by
    have hw := (w.2.2.2.2 v hv).1
    have V := C.2.2.2.2.2.2.1 v hv
    obtain ⟨g, hg, hg2⟩ := V.2.1
    rw [F_X8_solve_63, V.f.1, Option.bind_some, row_length hg, Option.bind_some, if_pos (nI_le (by omega) (by omega)), show i = rl S v by omega]
    rfl
  | q + 1, j + 1, i, h1, h2 => by
    have hw := (w.2.2.2.2 v hv).1
    have hi : i < rl S v := by omega
    have V := C.2.2.2.2.2.2.1 v hv
    obtain ⟨g, hg, hg2⟩ := V.2.1
    have ih := solve_in (K := K) (b4 := b4) (b5 := b5) w C hv hf hex hu hk p t q j (i + 1) (by omega) (by omega)
    rw [F_X8_solve_63, V.f.1, Option.bind_some, row_length hg, Option.bind_some, if_neg (nI_ge (by omega) (by omega))]
    unfold F_X8_solve_120
    rw [nI_1]
    have e1 : sumN (fun j => if ex j = true then 0 else num S (rw_ S v j) k) (i + 1) = sumN (fun j => if ex j = true then 0 else num S (rw_ S v j) k) i + (if ex i = true then 0 else num S (rw_ S v i) k) := rfl
    have e2 : sumN (fun j => if ex j = true then 0 else (j + 1) * num S (rw_ S v j) k) (i + 1) = sumN (fun j => if ex j = true then 0 else (j + 1) * num S (rw_ S v j) k) i + (if ex i = true then 0 else (i + 1) * num S (rw_ S v i) k) := rfl
    rw [e1, e2] at ih
    have hfi : (nI i = nI f) ↔ i = f := nI_eq (by omega) (by omega)
    by_cases c : ex i = true
    · rw [if_pos c, if_pos c, Nat.add_zero, Nat.add_zero] at ih
      by_cases c1 : i = f
      · rw [if_pos (hfi.mpr c1)]
        exact ih
      · rw [if_neg (fun z => c1 (hfi.mp z)), if_pos (((hex i hi).mp c).resolve_left c1)]
        exact ih
    · rw [if_neg c, if_neg c] at ih
      have hef : ex i = false := by cases z : ex i with
        | true => exact absurd z c
        | false => rfl
      have hnum := numberIn_t w C hv hi (hu i hi hef) hk
      rw [if_neg (fun z => c ((hex i hi).mpr (Or.inl (hfi.mp z)))), if_neg (fun z => c ((hex i hi).mpr (Or.inr z))), hnum, Option.bind_some, Option.bind_some]
      rw [nI_mulN, zI_n (num S (rw_ S v i) k), zI_n ((i + 1) * num S (rw_ S v i) k), zI_sub, zI_sub]
      rw [show p - (sumN (fun j => if ex j = true then 0 else num S (rw_ S v j) k) i : Nat) - (num S (rw_ S v i) k : Nat) = p - ((sumN (fun j => if ex j = true then 0 else num S (rw_ S v j) k) i + num S (rw_ S v i) k : Nat) : Int) by omega, show t - (sumN (fun j => if ex j = true then 0 else (j + 1) * num S (rw_ S v j) k) i : Nat) - ((i + 1) * num S (rw_ S v i) k : Nat) = t - ((sumN (fun j => if ex j = true then 0 else (j + 1) * num S (rw_ S v j) k) i + (i + 1) * num S (rw_ S v i) k : Nat) : Int) by omega]
      exact ih
/-- the first k signs of the block are there again -/
def Got (S : sS) (pb : Nat → Nat) (h : am_H) (b k : Nat) : Prop := ∃ f, RowAt h (rD (pb b) + 5) (ln S b) (ln S b) f ∧ ∀ j, j < k → j < ln S b → f j = nI (sg S b j)
theorem RX.setT (C : RX Z S pb pv h) {b k : Nat} (hb : b < nb S) (ht : tn S b = true) (hk : k < 24) (G : Got S pb h b k) {x : Int32} (hx : k < ln S b → x = nI (sg S b k)) : ∃ h', F_X4_set (rD (pb b) + 5) (nI k) x h = some h' ∧ RX Z S pb pv h' ∧ Got S pb h' b (k + 1) ∧ Fr (fun q => q = rD (pb b) + 6) h h' := by
  obtain ⟨f, r, hf⟩ := G
  by_cases c : k < ln S b
  · have B := C.2.2.2.2.2.1 b hb
    rw [ht] at B
    obtain ⟨h', e, B', r', F⟩ := B.setT r c x
    refine ⟨h', e, C.tears (t' := tn S) F (fun q z => ⟨b, hb, by omega, by omega⟩) (fun d hd => ?_), ⟨_, r', fun j h1 h2 => ?_⟩, F⟩
    · by_cases e : d = b
      · subst e; rw [ht]; exact B'
      · exact C.blk F (fun q z => by omega) hb hd e
    · by_cases e : j = k
      · rw [e, upd_self, hx c]
      · rw [upd_ne e]; exact hf j (by omega) h2
  · exact ⟨h, row_set_out r (by omega) (by omega) x, C, ⟨f, r, fun j h1 h2 => hf j (by omega) h2⟩, Fr.rf⟩
theorem Got.fr {h' : am_H} {b c k : Nat} (C : RX Z S pb pv h) (hb : b < nb S) (hc : c < nb S) (hne : b ≠ c) (G : Got S pb h b k) (F : Fr (fun q => q = rD (pb c) + 6) h h') : Got S pb h' b k := by
  obtain ⟨f, r, hf⟩ := G
  have h2 : pb b ≠ pb c := fun e => hne (C.2.2.2.2.2.2.2.2.1.2.1 b c hb hc e)
  exact ⟨f, r.fr F (by unfold rD; omega) (by unfold rD; omega), hf⟩
theorem mend_t (C : RX Z S pb pv h) {b : Nat} (hb : b < nb S) (hl : ln S b ≤ 24) (G : Got S pb h b 24) : ∃ h', F_X8_mend (rD (pb b)) h = some h' ∧ RX Z (S_t S (fun q => if q = b then false else tn S q)) pb pv h' ∧ Fr (fun q => q = rD (pb b)) h h' := by
  obtain ⟨f, r, hf⟩ := G
  obtain ⟨h', e, B', F⟩ := (C.2.2.2.2.2.1 b hb).torn false (fun _ => ⟨f, r, fun k hk => hf k (by omega) hk⟩)
  refine ⟨h', ?_, C.tears (t' := fun q => if q = b then false else tn S q) F (fun q z => ⟨b, hb, by omega, by omega⟩) (fun d hd => ?_), F⟩
  · unfold F_X8_mend F_X8_mend_b F_X8_mend_9
    rw [if_neg (rD_ne _), show (0 : Int32) = bI false from rfl, e]
    rfl
  · by_cases z : d = b
    · subst z
      show BlkAt Z h' _ _ _ (if d = d then false else tn S d)
      rw [if_pos rfl]; exact B'
    · show BlkAt Z h' _ _ _ (if d = b then false else tn S d)
      rw [if_neg z]; exact C.blk F (fun q z => by omega) hb hd z
theorem sums_t (C : RX Z S pb pv h) {v k : Nat} (hv : v < nv S) (hk : k < 24) : (am_gr 7 4 (rD (pv v)) h = some (rD (pv v) + 1) ∧ F_X4_at (rD (pv v) + 1) (nI k) h = some (zI (s1 S v k : Nat))) ∧ (am_gr 7 5 (rD (pv v)) h = some (rD (pv v) + 3) ∧ F_X4_at (rD (pv v) + 3) (nI k) h = some (zI (s2 S v k : Nat))) := by
  have V := C.2.2.2.2.2.2.1 v hv
  obtain ⟨f1, hf1, hg1⟩ := V.2.2.1
  obtain ⟨f2, hf2, hg2⟩ := V.2.2.2
  exact ⟨⟨V.f.2.2.2.2.1, by rw [row_at hf1 hk, hg1 k hk, zI_n]⟩, ⟨V.f.2.2.2.2.2, by rw [row_at hf2 hk, hg2 k hk, zI_n]⟩⟩
/-- one is torn -/
theorem solve1 (w : WF S) {v f : Nat} (hv : v < nv S) (hf : f < rl S v) (ht : tn S (rw_ S v f) = true) (hu : ∀ i, i < rl S v → i ≠ f → tn S (rw_ S v i) = false) : ∀ (q j k : Nat) (h : am_H), RX Z S pb pv h → Got S pb h (rw_ S v f) k → k + j = 24 → j < q →
    ∃ h', F_X8_solve_31 q 1 (rD (pv v)) (nI f) (-1) (rD (pb (rw_ S v f))) 0 (nI k) h = some h' ∧ RX Z (S_t S (fun b => if b = rw_ S v f then false else tn S b)) pb pv h' ∧ Fr (fun q => 116 ≤ q) h h'
  | 0, j, k, h, C, G, h1, h2 => by omega
  | q + 1, 0, k, h, C, G, h1, h2 => by
    have hb := (w.2.2.2.2 v hv).1.2 f hf
    have e : k = 24 := by omega
    subst e
    obtain ⟨h', e, C', F⟩ := mend_t C hb (w.2.2.1.2 _ hb).1.2 G
    refine ⟨h', ?_, C', F.mono (fun q z => by unfold rD at z; omega)⟩
    rw [F_X8_solve_31, if_pos (show (24 : Int32) ≤ nI 24 by decide), e, Option.bind_some]
    rfl
  | q + 1, j + 1, k, h, C, G, h1, h2 => by
    have hw := (w.2.2.2.2 v hv)
    have hb := hw.1.2 f hf
    have hk : k < 24 := by omega
    obtain ⟨⟨g1, a1⟩, ⟨g2, a2⟩⟩ := sums_t C hv hk
    have hs := (hw.2 k hk).1
    have hp := sumN_pick (g := fun i => num S (rw_ S v i) k) (g' := fun j => if decide (j = f) = true then 0 else num S (rw_ S v j) k) (f := f) (rl S v) hf (by simp) (fun j _ hj => by simp [hj])
    have hA := sumN_le (f := fun j => if decide (j = f) = true then 0 else num S (rw_ S v j) k) (c := 16) (rl S v) (fun i hi => by
      show (if decide (i = f) = true then 0 else num S (rw_ S v i) k) ≤ 16
      split
      · omega
      · exact num_le w (hw.1.2 i hi))
    have hin := solve_in (K := F_X8_solve_31 q) (b4 := rD (pb (rw_ S v f))) (b5 := 0) (L := -1) (ex := fun j => decide (j = f)) w C hv hf (fun i hi => by
      simp only [decide_eq_true_eq]
      refine ⟨Or.inl, fun z => z.resolve_right (fun e => ?_)⟩
      have h6 : nI i < 0 := by rw [e]; decide
      exact nI_pos (by omega) h6) (fun i hi he => hu i hi (by simpa using he)) hk (s1 S v k : Nat) (s2 S v k : Nat) am_F (rl S v) 0 (by omega) (by show _ < 100000; omega)
    rw [F_X8_solve_31, if_neg (show ¬ (24 : Int32) ≤ nI k from nI_ge (b := 24) (by omega) (by omega)), g1, Option.bind_some, a1, Option.bind_some, g2, Option.bind_some, a2, Option.bind_some]
    rw [show sumN (fun j => if (fun j => decide (j = f)) j = true then 0 else num S (rw_ S v j) k) 0 = 0 from rfl, show sumN (fun j => if (fun j => decide (j = f)) j = true then 0 else (j + 1) * num S (rw_ S v j) k) 0 = 0 from rfl, show ((s1 S v k : Nat) : Int) - ((0 : Nat) : Int) = (s1 S v k : Nat) by omega, show ((s2 S v k : Nat) : Int) - ((0 : Nat) : Int) = (s2 S v k : Nat) by omega] at hin
    rw [show (0 : Int32) = nI 0 from rfl, hin]
    unfold slv F_X8_solve_169 F_X8_solve_194
    have hrl := hw.1.1
    have hn16 := num_le w (k := k) hb
    generalize hAA : sumN (fun j => if (fun j => decide (j = f)) j = true then 0 else num S (rw_ S v j) k) (rl S v) = AA
    have hAA2 : sumN (fun j => if decide (j = f) = true then 0 else num S (rw_ S v j) k) (rl S v) = AA := hAA
    rw [hAA2] at hp hA
    have hp2 : s1 S v k = (AA + num S (rw_ S v f) k) % 17 := by rw [hs, hp]
    have hbnd : AA ≤ 128 := Nat.le_trans hA (by omega)
    rw [if_pos rfl, if_neg (rD_ne _), (C.2.2.2.2.2.1 _ hb).f.1, Option.bind_some, show (0 : Int32) = zI 0 from rfl, zI_sub, fmod17 (by omega) (by omega), Option.bind_some, nI_1]
    obtain ⟨h', e, C', G', F⟩ := C.setT hb ht hk G (x := zI (((s1 S v k : Nat) - (AA : Nat) - 0 : Int) % 17)) (fun c => by
      have hnm : num S (rw_ S v f) k = sg S (rw_ S v f) k := if_pos c
      rw [zI_n]
      congr 1
      omega)
    rw [e, Option.bind_some]
    obtain ⟨h3, e3, C3, F3⟩ := solve1 w hv hf ht hu q j (k + 1) h' C' G' (by omega) (by omega)
    exact ⟨h3, e3, C3, F.tr F3 (fun q z => by unfold rD at z; omega) (fun _ z => z)⟩
/-- two are torn -/
theorem solve2 (w : WF S) {v f l : Nat} (hv : v < nv S) (hfl : f < l) (hl : l < rl S v) (ht : tn S (rw_ S v f) = true) (ht2 : tn S (rw_ S v l) = true) (hne : rw_ S v f ≠ rw_ S v l) (hu : ∀ i, i < rl S v → i ≠ f → i ≠ l → tn S (rw_ S v i) = false) : ∀ (q j k : Nat) (h : am_H), RX Z S pb pv h → Got S pb h (rw_ S v f) k → Got S pb h (rw_ S v l) k → k + j = 24 → j < q →
    ∃ h', F_X8_solve_31 q 1 (rD (pv v)) (nI f) (nI l) (rD (pb (rw_ S v f))) (rD (pb (rw_ S v l))) (nI k) h = some h' ∧ RX Z (S_t S (fun b => if b = rw_ S v l then false else if b = rw_ S v f then false else tn S b)) pb pv h' ∧ Fr (fun q => 116 ≤ q) h h'
  | 0, j, k, h, C, G, G2, h1, h2 => by omega
  | q + 1, 0, k, h, C, G, G2, h1, h2 => by
    have hb := (w.2.2.2.2 v hv).1.2 f (by omega)
    have hb2 := (w.2.2.2.2 v hv).1.2 l hl
    have e : k = 24 := by omega
    subst e
    obtain ⟨h', e, C', F⟩ := mend_t C hb (w.2.2.1.2 _ hb).1.2 G
    obtain ⟨g2, r2, hg2⟩ := G2
    have hpp : pb (rw_ S v l) ≠ pb (rw_ S v f) := fun z => hne (C.2.2.2.2.2.2.2.2.1.2.1 _ _ hb2 hb z).symm
    obtain ⟨h3, e3, C3, F3⟩ := mend_t C' hb2 (w.2.2.1.2 _ hb2).1.2 ⟨g2, r2.fr F (by unfold rD; omega) (by unfold rD; omega), hg2⟩
    refine ⟨h3, ?_, C3, F.tr F3 (fun q z => by unfold rD at z; omega) (fun q z => by unfold rD at z; omega)⟩
    rw [F_X8_solve_31, if_pos (show (24 : Int32) ≤ nI 24 by decide), e, Option.bind_some, e3, Option.bind_some]
  | q + 1, j + 1, k, h, C, G, G2, h1, h2 => by
    have hw := (w.2.2.2.2 v hv)
    have hf : f < rl S v := by omega
    have hb := hw.1.2 f hf
    have hb2 := hw.1.2 l hl
    have hk : k < 24 := by omega
    have hrl := hw.1.1
    obtain ⟨⟨g1, a1⟩, ⟨g2, a2⟩⟩ := sums_t C hv hk
    have hs := (hw.2 k hk).1
    have hs2 := (hw.2 k hk).2
    have pick : ∀ g : Nat → Nat, sumN g (rl S v) = sumN (fun j => if (decide (j = f) || decide (j = l)) = true then 0 else g j) (rl S v) + g f + g l := by
      intro g
      have p1 := sumN_pick (g := g) (g' := fun j => if decide (j = f) = true then 0 else g j) (f := f) (rl S v) hf (by simp) (fun j _ hj => by simp [hj])
      have p2 := sumN_pick (g := fun j => if decide (j = f) = true then 0 else g j) (g' := fun j => if (decide (j = f) || decide (j = l)) = true then 0 else g j) (f := l) (rl S v) hl (by simp) (fun j _ hj => by simp [hj])
      have p3 : (if decide (l = f) = true then 0 else g l) = g l := by rw [if_neg (by simp; omega)]
      rw [p3] at p2
      omega
    have hp := pick (fun i => num S (rw_ S v i) k)
    have hp2 := pick (fun i => (i + 1) * num S (rw_ S v i) k)
    have hA := sumN_le (f := fun j => if (decide (j = f) || decide (j = l)) = true then 0 else num S (rw_ S v j) k) (c := 16) (rl S v) (fun i hi => by
      show (if (decide (i = f) || decide (i = l)) = true then 0 else num S (rw_ S v i) k) ≤ 16
      split
      · omega
      · exact num_le w (hw.1.2 i hi))
    have hB := sumN_le (f := fun j => if (decide (j = f) || decide (j = l)) = true then 0 else (j + 1) * num S (rw_ S v j) k) (c := 128) (rl S v) (fun i hi => by
      show (if (decide (i = f) || decide (i = l)) = true then 0 else (i + 1) * num S (rw_ S v i) k) ≤ 128
      split
      · omega
      · exact Nat.le_trans (Nat.mul_le_mul (show i + 1 ≤ 8 by omega) (num_le w (hw.1.2 i hi))) (by omega))
    have hin := solve_in (K := F_X8_solve_31 q) (b4 := rD (pb (rw_ S v f))) (b5 := rD (pb (rw_ S v l))) (L := nI l) (ex := fun j => decide (j = f) || decide (j = l)) w C hv hf (fun i hi => by
      simp only [Bool.or_eq_true, decide_eq_true_eq]
      rw [nI_eq (by omega) (by omega)]) (fun i hi he => by
        simp only [Bool.or_eq_false_iff, decide_eq_false_iff_not] at he
        exact hu i hi he.1 he.2) hk (s1 S v k : Nat) (s2 S v k : Nat) am_F (rl S v) 0 (by omega) (by show _ < 100000; omega)
    rw [F_X8_solve_31, if_neg (show ¬ (24 : Int32) ≤ nI k from nI_ge (b := 24) (by omega) (by omega)), g1, Option.bind_some, a1, Option.bind_some, g2, Option.bind_some, a2, Option.bind_some]
    rw [show sumN (fun j => if (fun j => decide (j = f) || decide (j = l)) j = true then 0 else num S (rw_ S v j) k) 0 = 0 from rfl, show sumN (fun j => if (fun j => decide (j = f) || decide (j = l)) j = true then 0 else (j + 1) * num S (rw_ S v j) k) 0 = 0 from rfl, show ((s1 S v k : Nat) : Int) - ((0 : Nat) : Int) = (s1 S v k : Nat) by omega, show ((s2 S v k : Nat) : Int) - ((0 : Nat) : Int) = (s2 S v k : Nat) by omega] at hin
    rw [show (0 : Int32) = nI 0 from rfl, hin]
    unfold slv F_X8_solve_169 F_X8_solve_194
    have hx16 := num_le w (k := k) hb
    have hy16 := num_le w (k := k) hb2
    generalize hAA : sumN (fun j => if (fun j => decide (j = f) || decide (j = l)) j = true then 0 else num S (rw_ S v j) k) (rl S v) = AA
    generalize hBB : sumN (fun j => if (fun j => decide (j = f) || decide (j = l)) j = true then 0 else (j + 1) * num S (rw_ S v j) k) (rl S v) = BB
    have hAA2 : sumN (fun j => if (decide (j = f) || decide (j = l)) = true then 0 else num S (rw_ S v j) k) (rl S v) = AA := hAA
    have hBB2 : sumN (fun j => if (decide (j = f) || decide (j = l)) = true then 0 else (j + 1) * num S (rw_ S v j) k) (rl S v) = BB := hBB
    rw [hAA2] at hp hA
    rw [hBB2] at hp2 hB
    have q1 : s1 S v k = (AA + num S (rw_ S v f) k + num S (rw_ S v l) k) % 17 := by rw [hs, hp]
    have q2 : s2 S v k = (BB + (f + 1) * num S (rw_ S v f) k + (l + 1) * num S (rw_ S v l) k) % 17 := by rw [hs2, hp2]
    have hbA : AA ≤ 128 := Nat.le_trans hA (by omega)
    have hbB : BB ≤ 1024 := Nat.le_trans hB (by omega)
    have hs1b : s1 S v k ≤ 16 := by omega
    have hs2b : s2 S v k ≤ 16 := by omega
    have hz := solve17 hfl (show l < 8 by omega) (x := (num S (rw_ S v f) k : Nat)) (y := (num S (rw_ S v l) k : Nat)) (A := (AA : Nat)) (B := (BB : Nat)) (by omega)
    have hz1 : ((s1 S v k : Nat) : Int) = ((AA : Int) + (num S (rw_ S v f) k : Nat) + (num S (rw_ S v l) k : Nat)) % 17 := by rw [q1]; omega
    have hz2 : ((s2 S v k : Nat) : Int) = ((BB : Int) + ((f : Int) + 1) * (num S (rw_ S v f) k : Nat) + ((l : Int) + 1) * (num S (rw_ S v l) k : Nat)) % 17 := by
      rw [q2]
      push_cast
      rfl
    rw [← hz1, ← hz2] at hz
    have hiv : ivN (l - f) ≤ 13 := by
      have : ∀ d, d < 8 → ivN d ≤ 13 := by decide
      exact this _ (by omega)
    rw [if_neg (rD_ne _), nI_subN (by omega), inverse_t (by omega), Option.bind_some, nI_1, zI_n (f + 1), zI_mul, zI_sub, zI_n (ivN (l - f)), zI_mul]
    have hm1 : -1200 ≤ (((f + 1 : Nat) : Int) * ((s1 S v k : Nat) - (AA : Nat))) ∧ (((f + 1 : Nat) : Int) * ((s1 S v k : Nat) - (AA : Nat))) ≤ 1200 := by
      have hf7 : f = 0 ∨ f = 1 ∨ f = 2 ∨ f = 3 ∨ f = 4 ∨ f = 5 ∨ f = 6 := by omega
      rcases hf7 with e | e | e | e | e | e | e <;> rw [e] <;> constructor <;> omega
    have hm2 : -1000000 ≤ ((s2 S v k : Nat) - (BB : Nat) - ((f + 1 : Nat) : Int) * ((s1 S v k : Nat) - (AA : Nat))) * ((ivN (l - f) : Nat) : Int) ∧ ((s2 S v k : Nat) - (BB : Nat) - ((f + 1 : Nat) : Int) * ((s1 S v k : Nat) - (AA : Nat))) * ((ivN (l - f) : Nat) : Int) ≤ 1000000 := by
      generalize ((f + 1 : Nat) : Int) * ((s1 S v k : Nat) - (AA : Nat)) = M at hm1
      have hv13 : ivN (l - f) = 0 ∨ ivN (l - f) = 1 ∨ ivN (l - f) = 2 ∨ ivN (l - f) = 3 ∨ ivN (l - f) = 4 ∨ ivN (l - f) = 5 ∨ ivN (l - f) = 6 ∨ ivN (l - f) = 7 ∨ ivN (l - f) = 8 ∨ ivN (l - f) = 9 ∨ ivN (l - f) = 10 ∨ ivN (l - f) = 11 ∨ ivN (l - f) = 12 ∨ ivN (l - f) = 13 := by omega
      rcases hv13 with e | e | e | e | e | e | e | e | e | e | e | e | e | e <;> rw [e] <;> constructor <;> omega
    rw [fmod17 hm2.1 hm2.2, Option.bind_some, (C.2.2.2.2.2.1 _ hb2).f.1, Option.bind_some]
    rw [show ((s2 S v k : Nat) - (BB : Nat) - ((f + 1 : Nat) : Int) * ((s1 S v k : Nat) - (AA : Nat))) * ((ivN (l - f) : Nat) : Int) % 17 = (num S (rw_ S v l) k : Nat) by
      rw [← hz]
      push_cast
      rfl]
    obtain ⟨h', e, C', G2', F⟩ := C.setT hb2 ht2 hk G2 (x := zI (num S (rw_ S v l) k : Nat)) (fun c => by
      have hnm : num S (rw_ S v l) k = sg S (rw_ S v l) k := if_pos c
      rw [zI_n, hnm])
    have G1 := Got.fr C hb hb2 hne G F
    rw [e, Option.bind_some, if_neg (rD_ne _), (C'.2.2.2.2.2.1 _ hb).f.1, Option.bind_some, zI_sub, fmod17 (by omega) (by omega), Option.bind_some, nI_1]
    obtain ⟨h4, e4, C4, G4, F4⟩ := C'.setT hb ht hk G1 (x := zI (((s1 S v k : Nat) - (AA : Nat) - (num S (rw_ S v l) k : Nat) : Int) % 17)) (fun c => by
      have hnm : num S (rw_ S v f) k = sg S (rw_ S v f) k := if_pos c
      rw [zI_n]
      congr 1
      omega)
    have G5 := Got.fr C' hb2 hb (fun z => hne z.symm) G2' F4
    rw [e4, Option.bind_some]
    obtain ⟨h5, e5, C5, F5⟩ := solve2 w hv hfl hl ht ht2 hne hu q j (k + 1) h4 C4 G4 G5 (by omega) (by omega)
    exact ⟨h5, e5, C5, (F.tr F4 (T := fun q => 116 ≤ q) (fun q z => by unfold rD at z; omega) (fun q z => by unfold rD at z; omega)).tr F5 (fun _ z => z) (fun _ z => z)⟩
end RX1
