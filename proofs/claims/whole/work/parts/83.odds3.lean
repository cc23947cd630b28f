/-! ODDS: the reference's side -/
def MO (I : Nat → Int32) (A : Nat → Nat → Int32) (po m : Nat) (g : Nat → Nat) : Prop := I 29 = nI m ∧ I 30 = nI po ∧ ∀ j, j < m → A 28 j = nI (g j)
def ChO (I I' : Nat → Int32) (A A' : Nat → Nat → Int32) : Prop := (∀ k, k ≠ 29 → k ≠ 30 → I' k = I k) ∧ ∀ k, k ≠ 28 → A' k = A k
theorem ChO.rf {I : Nat → Int32} {A : Nat → Nat → Int32} : ChO I I A A := ⟨fun _ _ _ => rfl, fun _ _ => rfl⟩
theorem ChO.tr {I I1 I2 : Nat → Int32} {A A1 A2 : Nat → Nat → Int32} (a : ChO I I1 A A1) (b : ChO I1 I2 A1 A2) : ChO I I2 A A2 := ⟨fun k h1 h2 => (b.1 k h1 h2).trans (a.1 k h1 h2), fun k h => (b.2 k h).trans (a.2 k h)⟩
theorem ChO.rm {S : sS} {I I' : Nat → Int32} {A A' : Nat → Nat → Int32} (c : ChO I I' A A') (R : RM S I A) : RM S I' A' := RM_IA R (fun k hk => c.1 k (by omega) (by omega)) (fun q hq => c.2 q (by omega))
section OM
variable {X : Fin 87 → am_C} {Y : am_H} {S : sS}
theorem MO.put {I : Nat → Int32} {A : Nat → Nat → Int32} {po m b : Nat} {g : Nat → Nat} (M : MO I A po m g) : MO (upd I 29 (nI (m + 1))) (upA A 28 m (nI b)) po (m + 1) (updN g m b) ∧ ChO I (upd I 29 (nI (m + 1))) A (upA A 28 m (nI b)) := by
  refine ⟨⟨upd_self, (upd_ne (by decide)).trans M.2.1, fun j hj => ?_⟩, fun k h1 h2 => upd_ne h1, fun k h => upA_ne h⟩
  rw [upA_self]
  show (if j = m then nI b else A 28 j) = nI (if j = m then b else g j)
  by_cases z : j = m
  · rw [if_pos z, if_pos z]
  · rw [if_neg z, if_neg z]; exact M.2.2 j (by omega)
theorem MO.off {I : Nat → Int32} {A : Nat → Nat → Int32} {po m : Nat} {g : Nat → Nat} (M : MO I A po m g) (x : Nat) : MO (upd I 30 (nI x)) A x m g ∧ ChO I (upd I 30 (nI x)) A A :=
  ⟨⟨(upd_ne (by decide)).trans M.1, upd_self, M.2.2⟩, fun k h1 h2 => upd_ne h2, fun k h => rfl⟩
theorem wbit_loop {b : Nat} (hb : b ≤ 1) : ∀ (q po m : Nat) (I : Nat → Int32) (A : Nat → Nat → Int32) (g : Nat → Nat), MO I A po m g → m + po ≤ 400 → po < q → ∃ I' A', F_X9_writeBit_20 q 88 (nI b) (md X I A Y) = some (md X I' A' Y) ∧ MO I' A' 0 (m + po) (emF (1 - b) po m g) ∧ ChO I I' A A'
  | 0, po, m, I, A, g, M, h1, h2 => by omega
  | q + 1, 0, m, I, A, g, M, h1, h2 => by
    rw [F_X9_writeBit_20, md_gi30, Option.bind_some, M.2.1, if_pos (show nI 0 ≤ 0 by decide)]
    exact ⟨I, A, rfl, M, ChO.rf⟩
  | q + 1, po + 1, m, I, A, g, M, h1, h2 => by
    obtain ⟨M1, c1⟩ := M.put (b := 1 - b)
    obtain ⟨M2, c2⟩ := M1.off po
    obtain ⟨I', A', e, M', c⟩ := wbit_loop hb q po (m + 1) _ _ _ M2 (by omega) (by omega)
    rw [show m + 1 + po = m + (po + 1) by omega] at M'
    refine ⟨I', A', ?_, M', (c1.tr c2).tr c⟩
    rw [F_X9_writeBit_20, md_gi30, Option.bind_some, M.2.1, if_neg (nI_nle (by omega) (by omega)), md_gr28, Option.bind_some, md_gi29, Option.bind_some, M.1, show (1 : Int32) = nI 1 from rfl, nI_subN hb, md_is28, ix_nI (show m < 400 by omega) (by decide), Option.bind_some, Option.bind_some, md_gi29, Option.bind_some, M.1, nI_add, md_pi29, Option.bind_some, md_gi30, Option.bind_some, M1.2.1, nI_subN (by omega), Nat.add_sub_cancel, md_pi30, Option.bind_some]
    exact e
theorem wbit_t {b po m : Nat} {I : Nat → Int32} {A : Nat → Nat → Int32} {g : Nat → Nat} (hb : b ≤ 1) (M : MO I A po m g) (hm : m + 1 + po ≤ 400) : ∃ I' A', F_X9_writeBit 88 (nI b) (md X I A Y) = some (md X I' A' Y) ∧ MO I' A' 0 (m + 1 + po) (emF (1 - b) po (m + 1) (updN g m b)) ∧ ChO I I' A A' := by
  obtain ⟨M1, c1⟩ := M.put (b := b)
  obtain ⟨I', A', e, M', c⟩ := wbit_loop (X := X) (Y := Y) hb am_F po (m + 1) _ _ _ M1 (by omega) (by show _ < 100000; omega)
  refine ⟨I', A', ?_, M', c1.tr c⟩
  unfold F_X9_writeBit F_X9_writeBit_b
  rw [md_obj, Option.bind_some, md_gr28, Option.bind_some, md_gi29, Option.bind_some, M.1, md_is28, ix_nI (show m < 400 by omega) (by decide), Option.bind_some, Option.bind_some, md_gi29, Option.bind_some, M.1, nI_1, md_pi29, Option.bind_some]
  exact e
theorem code_193 {K : Nat → Int32 → Int32 → Int32 → Int32 → am_H → Option am_H} {b i : Nat} : ∀ (k q lo hi po m : Nat) (I : Nat → Int32) (A : Nat → Nat → Int32) (g : Nat → Nat), MO I A po m g → lo ≤ hi → hi < 65536 → 65536 < (hi - lo + 1) * 2 ^ k → k + 1 < q → m + po + k ≤ 399 → ∃ I' A', F_X9_code_193 K q 88 (nI b) (nI lo) (nI hi) (nI i) 1 (md X I A Y) = K 88 (nI b) (nI (wd k lo hi po m g).1) (nI (wd k lo hi po m g).2.1) (nI (i + 1)) (md X I' A' Y) ∧ MO I' A' (wd k lo hi po m g).2.2.1 (wd k lo hi po m g).2.2.2.1 (wd k lo hi po m g).2.2.2.2 ∧ ChO I I' A A'
  | 0, q, lo, hi, po, m, I, A, g, M, h1, h2, h3, h4, h5 => by
    rw [Nat.pow_zero, Nat.mul_one] at h3
    omega
  | k + 1, 0, lo, hi, po, m, I, A, g, M, h1, h2, h3, h4, h5 => by omega
  | k + 1, q + 1, lo, hi, po, m, I, A, g, M, h1, h2, h3, h4, h5 => by
    rw [pow_step] at h3
    obtain ⟨q', eq⟩ : ∃ q', q = q' + 1 := ⟨q - 1, by omega⟩
    have dn : F_X9_code_276 K (F_X9_code_193 K q) 88 (nI b) (nI lo) (nI hi) (nI i) (md X I A Y) = K 88 (nI b) (nI lo) (nI hi) (nI (i + 1)) (md X I A Y) := by
      unfold F_X9_code_276 F_X9_code_279
      rw [if_pos rfl, eq, F_X9_code_193, if_pos rfl, nI_1]
    unfold wd
    rw [F_X9_code_193, if_neg i1ne0]
    unfold F_X9_code_279
    by_cases c1 : hi < 32768
    · rw [if_pos c1, if_neg (show ¬ (32768 : Int32) ≤ nI hi from nI_ge (b := 32768) c1 (by decide))]
      obtain ⟨I1, A1, e1, M1, ch1⟩ := wbit_t (X := X) (Y := Y) (b := 0) (by decide) M (by omega)
      obtain ⟨I', A', e, M', c⟩ := code_193 (K := K) (b := b) (i := i) k q (2 * lo) (2 * hi + 1) _ _ I1 A1 _ M1 (by omega) (by omega) (by rw [show 2 * hi + 1 - 2 * lo + 1 = 2 * (hi - lo + 1) by omega]; exact h3) (by omega) (by omega)
      refine ⟨I', A', ?_, M', ch1.tr c⟩
      rw [show F_X9_writeBit 88 0 (md X I A Y) = some (md X I1 A1 Y) from e1, Option.bind_some, if_neg i1ne0, show (2 : Int32) = nI 2 from rfl, nI_mulN, nI_mulN, nI_1]
      exact e
    rw [if_neg c1, if_pos (show (32768 : Int32) ≤ nI hi from nI_le (a := 32768) (by omega) (by omega))]
    by_cases c2 : 32768 ≤ lo
    · rw [if_pos c2, if_neg (show ¬ nI lo < (32768 : Int32) from nI_nlt (b := 32768) c2 (by omega))]
      obtain ⟨I1, A1, e1, M1, ch1⟩ := wbit_t (X := X) (Y := Y) (b := 1) (by decide) M (by omega)
      obtain ⟨I', A', e, M', c⟩ := code_193 (K := K) (b := b) (i := i) k q (2 * (lo - 32768)) (2 * (hi - 32768) + 1) _ _ I1 A1 _ M1 (by omega) (by omega) (by rw [show 2 * (hi - 32768) + 1 - 2 * (lo - 32768) + 1 = 2 * (hi - lo + 1) by omega]; exact h3) (by omega) (by omega)
      refine ⟨I', A', ?_, M', ch1.tr c⟩
      rw [show F_X9_writeBit 88 1 (md X I A Y) = some (md X I1 A1 Y) from e1, Option.bind_some, if_neg i1ne0, show nI lo + (-32768 : Int32) = nI (lo - 32768) from nI_neg (b := 32768) c2, show nI hi + (-32768 : Int32) = nI (hi - 32768) from nI_neg (b := 32768) (by omega), show (2 : Int32) = nI 2 from rfl, nI_mulN, nI_mulN, nI_1]
      exact e
    rw [if_neg c2, if_pos (show nI lo < (32768 : Int32) from nI_lt (b := 32768) (by omega) (by decide))]
    by_cases c3 : 16384 ≤ lo
    · rw [if_neg (show ¬ nI lo < (16384 : Int32) from nI_nlt (b := 16384) c3 (by omega))]
      by_cases c4 : hi < 49152
      · rw [if_pos (show 16384 ≤ lo ∧ hi < 49152 from ⟨c3, c4⟩), if_neg (show ¬ (49152 : Int32) ≤ nI hi from nI_ge (b := 49152) c4 (by decide))]
        obtain ⟨M1, ch1⟩ := M.off (po + 1)
        obtain ⟨I', A', e, M', c⟩ := code_193 (K := K) (b := b) (i := i) k q (2 * (lo - 16384)) (2 * (hi - 16384) + 1) _ _ _ A _ M1 (by omega) (by omega) (by rw [show 2 * (hi - 16384) + 1 - 2 * (lo - 16384) + 1 = 2 * (hi - lo + 1) by omega]; exact h3) (by omega) (by omega)
        refine ⟨I', A', ?_, M', ch1.tr c⟩
        rw [md_gi30, Option.bind_some, M.2.1, nI_1, md_pi30, Option.bind_some, if_neg i1ne0, show nI lo + (-16384 : Int32) = nI (lo - 16384) from nI_neg (b := 16384) c3, show nI hi + (-16384 : Int32) = nI (hi - 16384) from nI_neg (b := 16384) (by omega), show (2 : Int32) = nI 2 from rfl, nI_mulN, nI_mulN, nI_1]
        exact e
      · rw [if_neg (show ¬ (16384 ≤ lo ∧ hi < 49152) from fun z => c4 z.2), if_pos (show (49152 : Int32) ≤ nI hi from nI_le (a := 49152) (by omega) (by omega)), dn]
        exact ⟨I, A, rfl, M, ChO.rf⟩
    · rw [if_neg (show ¬ (16384 ≤ lo ∧ hi < 49152) from fun z => c3 z.1), if_pos (show nI lo < (16384 : Int32) from nI_lt (b := 16384) (by omega) (by decide)), dn]
      exact ⟨I, A, rfl, M, ChO.rf⟩
theorem code_42 {K : Nat → Int32 → Int32 → Int32 → Int32 → am_H → Option am_H} {b i lo hi : Nat} {I : Nat → Int32} {A : Nat → Nat → Int32} (w : WF S) (R : RM S I A) (hb : b < nb S) (hi' : i < ln S b) (h1 : lo ≤ hi) (h2 : hi < 65536) (h3 : 16386 ≤ hi - lo + 1) : ∀ (q k j : Nat), j + k = i - 1 → k < q →
    F_X9_code_42 K q 88 (nI b) (nI lo) (nI hi) (nI i) (nI (odK (sg S b) i (sg S b i) j)) (nI (cntN (fun j => oP (sg S b) i j && decide (sg S b (j + 1) < sg S b i)) j)) (nI (16 + cntN (oP (sg S b) i) j)) (nI (j + 1)) (md X I A Y) = F_X9_code_193 K am_F 88 (nI b) (nI (nwL (sg S b) i lo hi)) (nI (nwH (sg S b) i lo hi)) (nI i) 1 (md X I A Y)
  | 0, k, j, h4, h5 => by omega
  | q + 1, 0, j, h4, h5 => by
    have hl := w.2.2.1.2 b hb
    have hs := hl.2
    have hsi := hs i hi'
    have t1 := oT_le (sg S b) i
    have hk := nw_ok hs hl.1.2 hi' h1 h2 h3
    have hco := oCT hs hi'
    have hm1 : (hi - lo + 1) * (oC (sg S b) i + od (sg S b) i (sg S b i)) ≤ 65536 * 39 := Nat.mul_le_mul (by omega) (by omega)
    have hm2 : (hi - lo + 1) * oC (sg S b) i ≤ 65536 * 39 := Nat.mul_le_mul (by omega) (by omega)
    have ej : j = i - 1 := by omega
    subst ej
    have e1 : 16 + cntN (oP (sg S b) i) (i - 1) = oT (sg S b) i := rfl
    have e2 : cntN (fun j => oP (sg S b) i j && decide (sg S b (j + 1) < sg S b i)) (i - 1) + sg S b i = oC (sg S b) i := by unfold oC; omega
    have e3 : odK (sg S b) i (sg S b i) (i - 1) = od (sg S b) i (sg S b i) := rfl
    rw [F_X9_code_42, if_pos (nI_le (by omega) (by omega)), A4 w R hb hi', Option.bind_some, e1, e3, if_neg (nI_ne0 (by omega) (by omega)), if_neg (nI_ne0 (by omega) (by omega)), nI_add, e2, nI_add (oC (sg S b) i), nI_subN h1, nI_1, nI_mulN, nI_mulN, nI_div (by omega) (by omega), nI_div (by omega) (by omega), nI_add, nI_add, show nI (lo + (hi - lo + 1) * (oC (sg S b) i + od (sg S b) i (sg S b i)) / oT (sg S b) i) - 1 = nI (nwH (sg S b) i lo hi) by rw [show (1 : Int32) = nI 1 from rfl, nI_subN hk.2.2.2]; rfl]
    rfl
  | q + 1, k + 1, j, h4, h5 => by
    have hl := w.2.2.1.2 b hb
    have ih := code_42 (K := K) w R hb hi' h1 h2 h3 q k (j + 1) (by omega) (by omega)
    have s1 := hl.2 (j + 1) (by omega)
    have s2 := hl.2 j (by omega)
    have s3 := hl.2 (i - 1) (by omega)
    have s4 := hl.2 i hi'
    have a1 : odK (sg S b) i (sg S b i) (j + 1) = odK (sg S b) i (sg S b i) j + bN (oP (sg S b) i j && (sg S b (j + 1) == sg S b i)) := (Nat.add_assoc 1 _ _).symm
    have a2 : cntN (fun j => oP (sg S b) i j && decide (sg S b (j + 1) < sg S b i)) (j + 1) = cntN (fun j => oP (sg S b) i j && decide (sg S b (j + 1) < sg S b i)) j + bN (oP (sg S b) i j && decide (sg S b (j + 1) < sg S b i)) := rfl
    have a3 : 16 + cntN (oP (sg S b) i) (j + 1) = 16 + cntN (oP (sg S b) i) j + bN (oP (sg S b) i j) := (Nat.add_assoc 16 _ _).symm
    rw [a1, a2, a3] at ih
    rw [F_X9_code_42, if_neg (nI_ge (by omega) (by omega)), if_neg (nI_nle (by omega) (by omega)), pre_nI, A4 w R hb (show j < ln S b by omega), Option.bind_some, show nI i - 1 = nI (i - 1) by rw [show (1 : Int32) = nI 1 from rfl, nI_subN (by omega)], A4 w R hb (show i - 1 < ln S b by omega), Option.bind_some]
    unfold F_X9_code_138
    rw [nI_1 (j + 1)]
    by_cases c : sg S b j = sg S b (i - 1)
    · have hp : oP (sg S b) i j = true := by unfold oP; simpa using c
      rw [hp, Bool.true_and, Bool.true_and] at ih
      rw [if_pos (by rw [c]), A4 w R hb (show j + 1 < ln S b by omega), Option.bind_some, A4 w R hb hi', Option.bind_some]
      have k132 : ∀ v5 : Nat, F_X9_code_102 K (F_X9_code_42 K q) 88 (nI b) (nI lo) (nI hi) (nI i) (nI (cntN (fun j => oP (sg S b) i j && decide (sg S b (j + 1) < sg S b i)) j)) (nI (16 + cntN (oP (sg S b) i) j) + 1) (nI (j + 1)) (nI (odK (sg S b) i (sg S b i) j)) (nI v5) (md X I A Y) = F_X9_code_42 K q 88 (nI b) (nI lo) (nI hi) (nI i) (nI (odK (sg S b) i (sg S b i) j) + oneI (nI v5)) (nI (cntN (fun j => oP (sg S b) i j && decide (sg S b (j + 1) < sg S b i)) j + bN (decide (sg S b (j + 1) < sg S b i)))) (nI (16 + cntN (oP (sg S b) i) j + bN true)) (nI (j + 1 + 1)) (md X I A Y) := by
        intro v5
        unfold F_X9_code_102 F_X9_code_132 F_X9_code_138
        rw [one_spec, Option.bind_some, A4 w R hb (show j + 1 < ln S b by omega), Option.bind_some, A4 w R hb hi', Option.bind_some, nI_1, nI_1]
        by_cases c2 : sg S b (j + 1) < sg S b i
        · rw [if_neg (nI_ge c2 (by omega)), one_spec, Option.bind_some, decide_eq_true c2, oneI_1, nI_add]; rfl
        · rw [if_pos (nI_le (by omega) (by omega)), one_spec, Option.bind_some, decide_eq_false c2, oneI_z, nI_add]; rfl
      by_cases c3 : sg S b (j + 1) = sg S b i
      · rw [if_pos (by rw [c3]), show (1 : Int32) = nI 1 from rfl]
        refine (k132 1).trans ?_
        rw [show (sg S b (j + 1) == sg S b i) = true by simpa using c3] at ih
        rw [show oneI (nI 1) = nI 1 from rfl, nI_add]
        exact ih
      · rw [if_neg (fun z => c3 ((nI_eq (by omega) (by omega)).mp z)), show (0 : Int32) = nI 0 from rfl]
        refine (k132 0).trans ?_
        rw [show (sg S b (j + 1) == sg S b i) = false by simpa using c3] at ih
        rw [show oneI (nI 0) = nI 0 from rfl, nI_add]
        exact ih
    · have hp : oP (sg S b) i j = false := by unfold oP; simpa using c
      rw [hp, Bool.false_and, Bool.false_and] at ih
      rw [if_neg (fun z => c ((nI_eq (by omega) (by omega)).mp z))]
      exact ih
theorem codeM_loop {b : Nat} (w : WF S) (hb : b < nb S) : ∀ (q k i : Nat) (I : Nat → Int32) (A : Nat → Nat → Int32), RM S I A → MO I A (cd (sg S b) i).2.2.1 (cd (sg S b) i).2.2.2.1 (cd (sg S b) i).2.2.2.2 → i + k = ln S b → k < q →
    ∃ I' A', F_X9_code_18 q 88 (nI b) (nI (cd (sg S b) i).1) (nI (cd (sg S b) i).2.1) (nI i) (md X I A Y) = some (md X I' A' Y) ∧ MO I' A' 0 (cdN (sg S b) (ln S b)) (cdG (sg S b) (ln S b)) ∧ ChO I I' A A'
  | 0, k, i, I, A, R, M, h1, h2 => by omega
  | q + 1, 0, i, I, A, R, M, h1, h2 => by
    have hl := w.2.2.1.2 b hb
    have ei : i = ln S b := by omega
    subst ei
    obtain ⟨o1, o2, o3, o4⟩ := cd_ok hl.2 hl.1.2 (ln S b) (Nat.le_refl _)
    obtain ⟨M1, c1⟩ := M.off ((cd (sg S b) (ln S b)).2.2.1 + 1)
    obtain ⟨I', A', e2, M2, c2⟩ := wbit_t (X := X) (Y := Y) (b := lastB (cd (sg S b) (ln S b)).1) (by unfold lastB; split <;> omega) M1 (by omega)
    refine ⟨I', A', ?_, M2, c1.tr c2⟩
    rw [F_X9_code_18, md_gr3, Option.bind_some, A3 w R hb, Option.bind_some, if_pos (nI_le (Nat.le_refl _) (by omega)), md_gi30, Option.bind_some, M.2.1, nI_1, md_pi30, Option.bind_some]
    unfold F_X9_code_326
    unfold lastB at e2
    by_cases c : (cd (sg S b) (ln S b)).1 < 16384
    · rw [if_neg (show ¬ (16384 : Int32) ≤ nI (cd (sg S b) (ln S b)).1 from nI_ge (b := 16384) c (by decide))]
      rw [if_pos c] at e2
      rw [show (0 : Int32) = nI 0 from rfl, e2]
      rfl
    · rw [if_pos (show (16384 : Int32) ≤ nI (cd (sg S b) (ln S b)).1 from nI_le (a := 16384) (by omega) (by omega))]
      rw [if_neg c] at e2
      rw [show (1 : Int32) = nI 1 from rfl, e2]
      rfl
  | q + 1, k + 1, i, I, A, R, M, h1, h2 => by
    have hl := w.2.2.1.2 b hb
    obtain ⟨o1, o2, o3, o4⟩ := cd_ok hl.2 hl.1.2 i (by omega)
    obtain ⟨p1, p2, p3, -⟩ := nw_ok hl.2 hl.1.2 (show i < ln S b by omega) o1 o2 o3
    obtain ⟨I1, A1, e1, M1, c1⟩ := code_193 (X := X) (Y := Y) (K := F_X9_code_18 q) (b := b) (i := i) 8 am_F _ _ _ _ I A _ M p1 p2 p3 (by show _ < 100000; omega) (by omega)
    obtain ⟨I', A', e', M', c'⟩ := codeM_loop w hb q k (i + 1) I1 A1 (c1.rm R) M1 (by omega) (by omega)
    refine ⟨I', A', ?_, M', c1.tr c'⟩
    rw [F_X9_code_18, md_gr3, Option.bind_some, A3 w R hb, Option.bind_some, if_neg (nI_ge (by omega) (by omega))]
    refine (code_42 (X := X) (Y := Y) w R hb (show i < ln S b by omega) o1 o2 o3 am_F (i - 1) 0 (by omega) (by show _ < 100000; omega)).trans ?_
    exact e1.trans e'
theorem code_t {b : Nat} {I : Nat → Int32} {A : Nat → Nat → Int32} (w : WF S) (R : RM S I A) (hb : b < nb S) : ∃ I' A', F_X9_code 88 (nI b) (md X I A Y) = some (md X I' A' Y) ∧ MO I' A' 0 (cdN (sg S b) (ln S b)) (cdG (sg S b) (ln S b)) ∧ ChO I I' A A' := by
  have hl := w.2.2.1.2 b hb
  have M0 : MO (upd (upd I 29 (nI 0)) 30 (nI 0)) A 0 0 (fun _ => 0) := ⟨(upd_ne (by decide)).trans upd_self, upd_self, fun j hj => by omega⟩
  have c0 : ChO I (upd (upd I 29 (nI 0)) 30 (nI 0)) A A := ⟨fun k h1 h2 => (upd_ne h2).trans (upd_ne h1), fun _ _ => rfl⟩
  obtain ⟨I', A', e, M', c⟩ := codeM_loop (X := X) (Y := Y) w hb am_F (ln S b) 0 _ A (c0.rm R) M0 (by omega) (by show _ < 100000; omega)
  refine ⟨I', A', ?_, M', c0.tr c⟩
  unfold F_X9_code F_X9_code_b
  rw [md_obj, Option.bind_some, show (0 : Int32) = nI 0 from rfl, md_pi29, Option.bind_some, md_pi30, Option.bind_some]
  exact e
end OM
/-! bit -/
def sp_bit (S : sS) (b i : Int32) : Int32 := if vd (nb S) b then (if tn S b.toNatClampNeg = true then -100005 else if vd (cdN (sg S b.toNatClampNeg) (ln S b.toNatClampNeg)) i then nI (cdG (sg S b.toNatClampNeg) (ln S b.toNatClampNeg) i.toNatClampNeg) else -1) else -100001
def ofI (x : Int32) : Nat := x.toBitVec.toNat
theorem ofI_t (x : Int32) : x = nI (ofI x) := by
  apply Int32.toBitVec_inj.mp
  show x.toBitVec = BitVec.ofNat 32 _
  unfold ofI
  rw [BitVec.ofNat_toNat, BitVec.setWidth_eq]
section BI
variable {Z : sZ} {S : sS} {pb pv : Nat → Nat} {h : am_H}
theorem RX.oa (C : RX Z S pb pv h) : ∃ O lo hi po m g, OA h O lo hi po m g := by
  obtain ⟨s1, s2, s3, s4, s5, s6, ⟨⟨a, b, c, o1⟩, ⟨O, o2⟩, ⟨n, f, o3⟩⟩, s8⟩ := C.2.2.2.2.2.2.2.1
  rw [ofI_t a, ofI_t b, ofI_t c] at o1
  exact ⟨O, _, _, _, n, fun j => ofI (f j), o1, o2, f, o3, fun j _ => ofI_t (f j)⟩
theorem OA.scr {h' : am_H} {O : Nat → Int32} {lo hi po m : Nat} {g : Nat → Nat} (C : RX Z S pb pv h) (G : Fr inO h h') (M : OA h' O lo hi po m g) : RX Z S pb pv h' := by
  obtain ⟨f, r, -⟩ := M.2.2
  exact C.scr G (fun q z => by unfold inO at z; omega) (C.2.2.2.2.2.2.2.1.O G ⟨⟨_, _, _, M.1⟩, ⟨_, M.2.1⟩, ⟨_, _, r⟩⟩)
theorem odds_t (w : WF S) (C : RX Z S pb pv h) {b : Nat} (hb : b < nb S) (ht : tn S b = false) : ∃ h' O lo hi, F_X3_squeeze 60 (rD (pb b) + 5) h = some h' ∧ RX Z S pb pv h' ∧ OA h' O lo hi 0 (cdN (sg S b) (ln S b)) (cdG (sg S b) (ln S b)) ∧ Fr inO h h' := by
  obtain ⟨O, lo, hi, po, m, g, M⟩ := C.oa
  obtain ⟨h', O', lo', hi', e, r, M', G⟩ := squeezeO_t (C.sgAt w hb ht) M
  exact ⟨h', O', lo', hi', e, M'.scr C G, M', G⟩
theorem x_bit (w : WF S) (C : RX Z S pb pv h) (b i : Int32) : ∃ h', F_X8_bit 1 b i h = some (sp_bit S b i, h') ∧ RX Z S pb pv h' ∧ Fr inO h h' := by
  unfold sp_bit F_X8_bit F_X8_bit_b
  rw [C.ob]
  by_cases hb : vd (nb S) b
  · obtain ⟨j, hj, rfl⟩ := nI_of_toInt hb.1 hb.2
    have hn := w.2.2.1.1
    have hl := (w.2.2.1.2 j hj)
    have B := C.2.2.2.2.2.1 j hj
    rw [if_pos hb, cl_nI (show j < 2 ^ 31 by omega), blockOf_t w C hj, Option.bind_some, if_neg (rD_ne _), B.f.2.2.2, Option.bind_some]
    cases ht : tn S j with
    | true =>
      rw [if_neg (show ¬ bI true = 0 by decide), if_pos (rfl : true = true)]
      exact ⟨h, rfl, C, Fr.rf⟩
    | false =>
      obtain ⟨h', O, lo, hi, e, C', M, G⟩ := odds_t w C hj ht
      have hc := cdN_le hl.2 hl.1.2
      obtain ⟨f, r, hf⟩ := M.2.2
      refine ⟨h', ?_, C', G⟩
      rw [if_pos (show bI false = 0 from rfl), if_neg (show ¬ false = true by decide), C.gr (k := 13) (x := 60) (fun _ => rfl), Option.bind_some, B.f.1, Option.bind_some, e, Option.bind_some, C'.gr (k := 13) (x := 60) (fun _ => rfl), Option.bind_some, M.gr.2.1, Option.bind_some, row_at_any r, Option.bind_some]
      by_cases c2 : vd (cdN (sg S j) (ln S j)) i
      · obtain ⟨z, hz, rfl⟩ := nI_of_toInt c2.1 c2.2
        rw [if_pos c2, if_pos c2, cl_nI (by omega), hf z hz]
      · rw [if_neg c2, if_neg c2]
  · rw [if_neg hb, blockOf_f w C hb, Option.bind_some, if_pos rfl]
    exact ⟨h, rfl, C, Fr.rf⟩
end BI
section BIM
variable {X : Fin 87 → am_C} {I : Nat → Int32} {A : Nat → Nat → Int32} {Y : am_H} {S : sS}
theorem m_bit (w : WF S) (R : RM S I A) (b i : Int32) : ∃ I' A', F_X9_bit 88 b i (md X I A Y) = some (sp_bit S b i, md X I' A' Y) ∧ RM S I' A' := by
  unfold sp_bit F_X9_bit F_X9_bit_b F_X9_bit_54
  rw [md_obj, Option.bind_some]
  by_cases hb : vd (nb S) b
  · obtain ⟨j, hj, rfl⟩ := nI_of_toInt hb.1 hb.2
    have hn := w.2.2.1.1
    have hl := (w.2.2.1.2 j hj)
    rw [if_pos hb, cl_nI (show j < 2 ^ 31 by omega), noB_t w R hb, Option.bind_some, if_pos rfl, md_gr5, Option.bind_some, A5 w R hj, Option.bind_some]
    cases ht : tn S j with
    | true =>
      rw [if_neg (show ¬ bI true = 0 by decide), if_pos (rfl : true = true)]
      exact ⟨I, A, rfl, R⟩
    | false =>
      obtain ⟨I', A', e, M, c⟩ := code_t (X := X) (Y := Y) w R hj
      have hc := cdN_le hl.2 hl.1.2
      refine ⟨I', A', ?_, c.rm R⟩
      rw [if_pos (show bI false = 0 from rfl), if_neg (show ¬ false = true by decide), e, Option.bind_some, md_gi29, Option.bind_some, M.1, in_spec, Option.bind_some, Int32.toInt_toInt64, Int32.toInt_toInt64, nI_pre (by omega), show (0 : Int64).toInt = 0 from rfl]
      by_cases c2 : vd (cdN (sg S j) (ln S j)) i
      · rw [if_pos (show 0 ≤ i.toInt ∧ i.toInt ≤ ((cdN (sg S j) (ln S j) : Nat) : Int) - 1 by unfold vd at c2; omega), if_neg i1ne0, if_pos c2]
        obtain ⟨z, hz, rfl⟩ := nI_of_toInt c2.1 c2.2
        rw [md_gr28, Option.bind_some, md_il28, ix_nI (show z < 400 by omega) (by decide), Option.bind_some, Option.bind_some, M.2.2 z hz, cl_nI (by omega)]
      · rw [if_neg (show ¬ (0 ≤ i.toInt ∧ i.toInt ≤ ((cdN (sg S j) (ln S j) : Nat) : Int) - 1) by unfold vd at c2; omega), if_pos rfl, if_neg c2]
  · rw [if_neg hb, noB_f w R hb, Option.bind_some, if_neg i1ne0]
    exact ⟨I, A, rfl, R⟩
end BIM
section OPS9
variable {Z : sZ}
theorem o_bit : am_op_bit (Inv Z) := by
  rintro h a0 a1 ⟨S, pb, pv, X, I, A, Y, w, R, rfl, C, hn⟩
  obtain ⟨h1, e, C', F⟩ := x_bit w C a0 a1
  obtain ⟨h2, e2, hI⟩ := Inv.fin (f := F_X9_bit 88 a0 a1) (r := sp_bit S a0 a1) w (fun q q1 q2 => F.2.2 q (by unfold inO; omega)) C' (by rw [F.2.1]; exact hn) (fun X Y => m_bit w R a0 a1)
  exact ⟨_, h1, h2, e, e2, hI⟩
end OPS9
