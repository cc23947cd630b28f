/-! THE STATE IN NUMBERS: draft; pattern; blocks (how many; length, signs, torn); versions (how many; row's length, row, parent, fresh ones, both sums) -/
abbrev sS : Type := (Nat × (Nat → Nat)) × (Nat × (Nat → Nat)) × (Nat × (Nat → Nat) × (Nat → Nat → Nat) × (Nat → Bool)) × (Nat × (Nat → Nat) × (Nat → Nat → Nat) × (Nat → Int32) × (Nat → Nat) × (Nat → Nat → Nat) × (Nat → Nat → Nat))
abbrev nd (S : sS) : Nat := S.1.1
abbrev dr (S : sS) : Nat → Nat := S.1.2
abbrev np (S : sS) : Nat := S.2.1.1
abbrev pt (S : sS) : Nat → Nat := S.2.1.2
abbrev nb (S : sS) : Nat := S.2.2.1.1
abbrev ln (S : sS) : Nat → Nat := S.2.2.1.2.1
abbrev sg (S : sS) : Nat → Nat → Nat := S.2.2.1.2.2.1
abbrev tn (S : sS) : Nat → Bool := S.2.2.1.2.2.2
abbrev nv (S : sS) : Nat := S.2.2.2.1
abbrev rl (S : sS) : Nat → Nat := S.2.2.2.2.1
abbrev rw_ (S : sS) : Nat → Nat → Nat := S.2.2.2.2.2.1
abbrev pr (S : sS) : Nat → Int32 := S.2.2.2.2.2.2.1
abbrev fr (S : sS) : Nat → Nat := S.2.2.2.2.2.2.2.1
abbrev s1 (S : sS) : Nat → Nat → Nat := S.2.2.2.2.2.2.2.2.1
abbrev s2 (S : sS) : Nat → Nat → Nat := S.2.2.2.2.2.2.2.2.2
def sumN (f : Nat → Nat) : Nat → Nat
  | 0 => 0
  | n + 1 => sumN f n + f n
theorem sumN_le {f : Nat → Nat} {c : Nat} : ∀ n, (∀ i, i < n → f i ≤ c) → sumN f n ≤ n * c
  | 0, _ => Nat.le_of_eq (by simp [sumN])
  | n + 1, h => by
    have h1 := sumN_le n (fun i hi => h i (by omega))
    have h2 := h n (by omega)
    have h3 : (n + 1) * c = n * c + c := Nat.succ_mul n c
    simp only [sumN]
    omega
theorem sumN_mono {f : Nat → Nat} : ∀ {m n : Nat}, m ≤ n → sumN f m ≤ sumN f n := by
  intro m n h
  induction n with
  | zero => rw [Nat.le_zero.mp h]; exact Nat.le_refl _
  | succ n ih =>
    by_cases e : m = n + 1
    · rw [e]; exact Nat.le_refl _
    · have := ih (by omega)
      simp only [sumN]
      omega
theorem sumN_cong {f g : Nat → Nat} : ∀ n, (∀ i, i < n → f i = g i) → sumN f n = sumN g n
  | 0, _ => rfl
  | n + 1, h => by
    simp only [sumN]
    rw [sumN_cong n (fun i hi => h i (by omega)), h n (by omega)]
def num (S : sS) (b k : Nat) : Nat := if k < ln S b then sg S b k else 16
/-- what holds of every state -/
def WF (S : sS) : Prop := (nd S ≤ 96 ∧ ∀ j, j < nd S → dr S j < 16) ∧ (np S ≤ 12 ∧ ∀ j, j < np S → 1 ≤ pt S j ∧ pt S j ≤ 65535) ∧ (nb S ≤ 200 ∧ ∀ b, b < nb S → (1 ≤ ln S b ∧ ln S b ≤ 24) ∧ ∀ k, k < ln S b → sg S b k < 16) ∧
  (nv S ≤ 30 ∧ ∀ v, v < nv S → (rl S v ≤ 8 ∧ ∀ i, i < rl S v → rw_ S v i < nb S) ∧ ∀ k, k < 24 → s1 S v k = sumN (fun i => num S (rw_ S v i) k) (rl S v) % 17 ∧ s2 S v k = sumN (fun i => (i + 1) * num S (rw_ S v i) k) (rl S v) % 17)
/-- the reference holds the state -/
def RM (S : sS) (I : Nat → Int32) (A : Nat → Nat → Int32) : Prop := (I 0 = nI (nd S) ∧ ∀ j, j < nd S → A 1 j = nI (dr S j)) ∧ (I 39 = nI (np S) ∧ ∀ j, j < np S → A 40 j = nI (pt S j)) ∧
  (I 2 = nI (nb S) ∧ ∀ b, b < nb S → A 3 b = nI (ln S b) ∧ (∀ k, k < ln S b → A 4 (24 * b + k) = nI (sg S b k)) ∧ A 5 b = bI (tn S b)) ∧
  (I 6 = nI (nv S) ∧ ∀ v, v < nv S → A 7 v = nI (rl S v) ∧ (∀ i, i < rl S v → A 8 (8 * v + i) = nI (rw_ S v i)) ∧ A 9 v = pr S v ∧ A 10 v = nI (fr S v) ∧ ∀ k, k < 24 → A 11 (24 * v + k) = nI (s1 S v k) ∧ A 12 (24 * v + k) = nI (s2 S v k))
/-- PLACES of a version; its torn blocks -/
def plc (S : sS) (v : Nat) : Nat := sumN (fun i => ln S (rw_ S v i)) (rl S v)
def trn (S : sS) (v : Nat) : Nat := sumN (fun i => bN (tn S (rw_ S v i))) (rl S v)
theorem plc_le {S : sS} (w : WF S) {v : Nat} (hv : v < nv S) : plc S v ≤ 192 := by
  have h1 := (w.2.2.2.2 v hv).1
  have := sumN_le (f := fun i => ln S (rw_ S v i)) (c := 24) (rl S v) (fun i hi => (w.2.2.1.2 _ (h1.2 i hi)).1.2)
  unfold plc
  have : rl S v * 24 ≤ 8 * 24 := Nat.mul_le_mul_right 24 h1.1
  omega
section M2
variable {X : Fin 87 → am_C} {I : Nat → Int32} {A : Nat → Nat → Int32} {Y : am_H} {S : sS}
theorem placesOf_loop (w : WF S) (R : RM S I A) {v : Nat} (hv : v < nv S) : ∀ (n i : Nat), i ≤ rl S v → rl S v < i + n → F_X9_placesOf_4 n 88 (nI v) (nI (sumN (fun i => ln S (rw_ S v i)) i)) (nI i) (md X I A Y) = some (nI (plc S v))
  | 0, i, h1, h2 => by omega
  | n + 1, i, h1, h2 => by
    have hv30 : v < 30 := Nat.lt_of_lt_of_le hv w.2.2.2.1
    have hw := (w.2.2.2.2 v hv).1
    have hr := R.2.2.2.2 v hv
    rw [F_X9_placesOf_4]
    simp only [md_obj, md_gi0, md_gi2, md_gi6, md_gi14, md_gi16, md_gi17, md_gi18, md_gi19, md_gi22, md_gi24, md_gi25, md_gi29, md_gi30, md_gi35, md_gi39, md_gr1, md_gr3, md_gr4, md_gr5, md_gr7, md_gr8, md_gr9, md_gr10, md_gr11, md_gr12, md_gr13, md_gr15, md_gr20, md_gr21, md_gr23, md_gr26, md_gr27, md_gr28, md_gr31, md_gr32, md_gr33, md_gr34, md_gr36, md_gr37, md_gr38, md_gr40, md_gr41, md_il1, md_il3, md_il4, md_il5, md_il7, md_il8, md_il9, md_il10, md_il11, md_il12, md_il13, md_il15, md_il20, md_il21, md_il23, md_il26, md_il27, md_il28, md_il31, md_il32, md_il33, md_il34, md_il36, md_il37, md_il38, md_il40, md_il41, Option.bind_some, ix_nI hv30 (by decide), hr.1]
    by_cases hc : rl S v ≤ i
    · have e : i = rl S v := by omega
      rw [if_pos (nI_le hc (by omega)), e]
      rfl
    · rw [if_neg (nI_ge (by omega) (by omega))]
      have hb := hw.2 i (by omega)
      simp only [blockAt_spec (show 8 * v + i < 240 by omega), Option.bind_some, hr.2.1 i (by omega), ix_nI (show rw_ S v i < 200 by have := w.2.2.1.1; omega) (by decide), (R.2.2.1.2 _ hb).1, nI_add, lit]
      exact placesOf_loop w R hv n (i + 1) (by omega) (by omega)
theorem placesOf_spec (w : WF S) (R : RM S I A) {v : Nat} (hv : v < nv S) : F_X9_placesOf 88 (nI v) (md X I A Y) = some (nI (plc S v)) := by
  simp only [F_X9_placesOf, F_X9_placesOf_b, md_obj, md_gi0, md_gi2, md_gi6, md_gi14, md_gi16, md_gi17, md_gi18, md_gi19, md_gi22, md_gi24, md_gi25, md_gi29, md_gi30, md_gi35, md_gi39, md_gr1, md_gr3, md_gr4, md_gr5, md_gr7, md_gr8, md_gr9, md_gr10, md_gr11, md_gr12, md_gr13, md_gr15, md_gr20, md_gr21, md_gr23, md_gr26, md_gr27, md_gr28, md_gr31, md_gr32, md_gr33, md_gr34, md_gr36, md_gr37, md_gr38, md_gr40, md_gr41, md_il1, md_il3, md_il4, md_il5, md_il7, md_il8, md_il9, md_il10, md_il11, md_il12, md_il13, md_il15, md_il20, md_il21, md_il23, md_il26, md_il27, md_il28, md_il31, md_il32, md_il33, md_il34, md_il36, md_il37, md_il38, md_il40, md_il41, Option.bind_some]
  have hw := (w.2.2.2.2 v hv).1
  exact placesOf_loop w R hv am_F 0 (by omega) (by show _ < 0 + 100000; omega)
theorem tornIn_loop (w : WF S) (R : RM S I A) {v : Nat} (hv : v < nv S) : ∀ (n i : Nat), i ≤ rl S v → rl S v < i + n → F_X9_tornIn_4 n 88 (nI v) (nI (sumN (fun i => bN (tn S (rw_ S v i))) i)) (nI i) (md X I A Y) = some (nI (trn S v))
  | 0, i, h1, h2 => by omega
  | n + 1, i, h1, h2 => by
    have hv30 : v < 30 := Nat.lt_of_lt_of_le hv w.2.2.2.1
    have hw := (w.2.2.2.2 v hv).1
    have hr := R.2.2.2.2 v hv
    rw [F_X9_tornIn_4]
    simp only [md_obj, md_gi0, md_gi2, md_gi6, md_gi14, md_gi16, md_gi17, md_gi18, md_gi19, md_gi22, md_gi24, md_gi25, md_gi29, md_gi30, md_gi35, md_gi39, md_gr1, md_gr3, md_gr4, md_gr5, md_gr7, md_gr8, md_gr9, md_gr10, md_gr11, md_gr12, md_gr13, md_gr15, md_gr20, md_gr21, md_gr23, md_gr26, md_gr27, md_gr28, md_gr31, md_gr32, md_gr33, md_gr34, md_gr36, md_gr37, md_gr38, md_gr40, md_gr41, md_il1, md_il3, md_il4, md_il5, md_il7, md_il8, md_il9, md_il10, md_il11, md_il12, md_il13, md_il15, md_il20, md_il21, md_il23, md_il26, md_il27, md_il28, md_il31, md_il32, md_il33, md_il34, md_il36, md_il37, md_il38, md_il40, md_il41, Option.bind_some, ix_nI hv30 (by decide), hr.1]
    by_cases hc : rl S v ≤ i
    · have e : i = rl S v := by omega
      rw [if_pos (nI_le hc (by omega)), e]
      rfl
    · rw [if_neg (nI_ge (by omega) (by omega))]
      have hb := hw.2 i (by omega)
      simp only [blockAt_spec (show 8 * v + i < 240 by omega), Option.bind_some, hr.2.1 i (by omega), ix_nI (show rw_ S v i < 200 by have := w.2.2.1.1; omega) (by decide), (R.2.2.1.2 _ hb).2.2, one_spec, oneI_b, nI_add, lit]
      exact tornIn_loop w R hv n (i + 1) (by omega) (by omega)
theorem tornIn_spec (w : WF S) (R : RM S I A) {v : Nat} (hv : v < nv S) : F_X9_tornIn 88 (nI v) (md X I A Y) = some (nI (trn S v)) := by
  simp only [F_X9_tornIn, F_X9_tornIn_b, md_obj, md_gi0, md_gi2, md_gi6, md_gi14, md_gi16, md_gi17, md_gi18, md_gi19, md_gi22, md_gi24, md_gi25, md_gi29, md_gi30, md_gi35, md_gi39, md_gr1, md_gr3, md_gr4, md_gr5, md_gr7, md_gr8, md_gr9, md_gr10, md_gr11, md_gr12, md_gr13, md_gr15, md_gr20, md_gr21, md_gr23, md_gr26, md_gr27, md_gr28, md_gr31, md_gr32, md_gr33, md_gr34, md_gr36, md_gr37, md_gr38, md_gr40, md_gr41, md_il1, md_il3, md_il4, md_il5, md_il7, md_il8, md_il9, md_il10, md_il11, md_il12, md_il13, md_il15, md_il20, md_il21, md_il23, md_il26, md_il27, md_il28, md_il31, md_il32, md_il33, md_il34, md_il36, md_il37, md_il38, md_il40, md_il41, Option.bind_some]
  have hw := (w.2.2.2.2 v hv).1
  exact tornIn_loop w R hv am_F 0 (by omega) (by show _ < 0 + 100000; omega)
end M2
