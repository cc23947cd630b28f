/-! restore -/
def fst2 (p : Nat → Bool) : Nat → Nat → Nat
  | 0, i => i
  | k + 1, i => if p i = true then i else fst2 p k (i + 1)
theorem fst2_spec (p : Nat → Bool) : ∀ k i, i ≤ fst2 p k i ∧ fst2 p k i ≤ i + k ∧ (∀ j, i ≤ j → j < fst2 p k i → p j = false) ∧ (fst2 p k i < i + k → p (fst2 p k i) = true)
  | 0, i => ⟨Nat.le_refl _, Nat.le_refl _, fun j h1 h2 => by unfold fst2 at h2; omega, fun h => by unfold fst2 at h; omega⟩
  | k + 1, i => by
    obtain ⟨a1, a2, a3, a4⟩ := fst2_spec p k (i + 1)
    unfold fst2
    cases hp : p i with
    | true =>
      rw [if_pos rfl]
      exact ⟨Nat.le_refl _, by omega, fun j h1 h2 => by omega, fun _ => hp⟩
    | false =>
      rw [if_neg (by decide)]
      refine ⟨by omega, by omega, fun j h1 h2 => ?_, fun h => a4 (by omega)⟩
      by_cases e : j = i
      · rw [e]; exact hp
      · exact a3 j (by omega) h2
theorem cnt0 {p : Nat → Bool} : ∀ n, cntN p n = 0 ↔ ∀ j, j < n → p j = false
  | 0 => ⟨fun _ j hj => by omega, fun _ => rfl⟩
  | n + 1 => by
    simp only [cntN]
    have ih := cnt0 (p := p) n
    constructor
    · intro h j hj
      by_cases e : j = n
      · cases hp : p n with
        | true => rw [hp] at h; simp [bN] at h
        | false => rw [e]; exact hp
      · exact ih.mp (by omega) j (by omega)
    · intro h
      rw [ih.mpr (fun j hj => h j (by omega)), h n (by omega)]
      rfl
theorem cnt_pick {p : Nat → Bool} {n x : Nat} (hx : x < n) (hp : p x = true) : cntN p n = cntN (fun j => p j && !decide (j = x)) n + 1 := by
  have := cntN_one (p := fun j => p j && !decide (j = x)) (q := p) (x := x) n hx (by simp) (fun b hb hne => by simp [hne])
  rw [this, hp]
  rfl
theorem torn_two {p : Nat → Bool} {n : Nat} : (cntN p n = 1 → fst2 p n 0 < n ∧ fst2 p (n - (fst2 p n 0 + 1)) (fst2 p n 0 + 1) = n ∧ p (fst2 p n 0) = true ∧ ∀ j, j < n → j ≠ fst2 p n 0 → p j = false) ∧ (cntN p n = 2 → fst2 p n 0 < n ∧ fst2 p (n - (fst2 p n 0 + 1)) (fst2 p n 0 + 1) < n ∧ fst2 p n 0 < fst2 p (n - (fst2 p n 0 + 1)) (fst2 p n 0 + 1) ∧ p (fst2 p n 0) = true ∧ p (fst2 p (n - (fst2 p n 0 + 1)) (fst2 p n 0 + 1)) = true ∧ ∀ j, j < n → j ≠ fst2 p n 0 → j ≠ fst2 p (n - (fst2 p n 0 + 1)) (fst2 p n 0 + 1) → p j = false) := by
  obtain ⟨a1, a2, a3, a4⟩ := fst2_spec p n 0
  generalize fst2 p n 0 = f at a1 a2 a3 a4
  have hf : cntN p n ≠ 0 → f < n := fun h => by
    rcases Nat.lt_or_ge f n with c | c
    · exact c
    · exact absurd ((cnt0 n).mpr (fun j hj => a3 j (by omega) (by omega))) h
  constructor
  · intro h
    have hfn := hf (by omega)
    have hp := a4 (by omega)
    have h2 := cnt_pick hfn hp
    have h3 := (cnt0 n).mp (show cntN (fun j => p j && !decide (j = f)) n = 0 by omega)
    have h4 : ∀ j, j < n → j ≠ f → p j = false := fun j hj hne => by
      have := h3 j hj
      simpa [hne] using this
    refine ⟨hfn, ?_, hp, h4⟩
    obtain ⟨b1, b2, b3, b4⟩ := fst2_spec p (n - (f + 1)) (f + 1)
    generalize fst2 p (n - (f + 1)) (f + 1) = l at b1 b2 b3 b4
    rcases Nat.lt_or_ge l n with c | c
    · have h5 := b4 (by omega)
      rw [h4 l c (by omega)] at h5
      cases h5
    · omega
  · intro h
    have hfn := hf (by omega)
    have hp := a4 (by omega)
    have h2 := cnt_pick hfn hp
    obtain ⟨b1, b2, b3, b4⟩ := fst2_spec p (n - (f + 1)) (f + 1)
    generalize fst2 p (n - (f + 1)) (f + 1) = l at b1 b2 b3 b4
    have hl : l < n := by
      rcases Nat.lt_or_ge l n with c | c
      · exact c
      · exfalso
        have h5 := (cnt0 (p := fun j => p j && !decide (j = f)) n).mpr (fun j hj => by
          show (p j && !decide (j = f)) = false
          by_cases e : j = f
          · simp [e]
          · have : p j = false := by
              rcases Nat.lt_or_ge j f with c2 | c2
              · exact a3 j (by omega) c2
              · exact b3 j (by omega) (by omega)
            rw [this]; rfl)
        omega
    have hpl := b4 (by omega)
    have h6 := cnt_pick (p := fun j => p j && !decide (j = f)) hl (by show (p l && !decide (l = f)) = true; rw [hpl, decide_eq_false (by omega)]; rfl)
    have h7 := (cnt0 n).mp (show cntN (fun j => (p j && !decide (j = f)) && !decide (j = l)) n = 0 by omega)
    refine ⟨hfn, hl, by omega, hp, hpl, fun j hj h8 h9 => ?_⟩
    have := h7 j hj
    simpa [h8, h9] using this
/-- a torn block stands twice -/
def twB (S : sS) (v : Nat) : Bool := anyN (fun i => anyN (fun j => tn S (rw_ S v i) && (rw_ S v i == rw_ S v j)) i) (rl S v)
theorem twB_t {S : sS} {v : Nat} : twB S v = true ↔ ∃ i j, j < i ∧ i < rl S v ∧ tn S (rw_ S v i) = true ∧ rw_ S v i = rw_ S v j := by
  unfold twB
  constructor
  · intro h
    obtain ⟨i, h1, h2⟩ := anyN_t.mp h
    obtain ⟨j, h3, h4⟩ := anyN_t.mp h2
    simp only [Bool.and_eq_true, beq_iff_eq] at h4
    exact ⟨i, j, h3, h1, h4.1, h4.2⟩
  · rintro ⟨i, j, h1, h2, h3, h4⟩
    refine anyN_t.mpr ⟨i, h2, anyN_t.mpr ⟨j, h1, ?_⟩⟩
    show (tn S (rw_ S v i) && (rw_ S v i == rw_ S v j)) = true
    rw [h3, h4]
    simp
def sp_restore (S : sS) (v : Int32) : Int32 × sS := if vd (nv S) v then (if (1 ≤ trn S v.toNatClampNeg ∧ trn S v.toNatClampNeg ≤ 2) ∧ twB S v.toNatClampNeg = false then (nI (trn S v.toNatClampNeg), S_t S (fun b => tn S b && !(hasB S v.toNatClampNeg b))) else (-100003, S)) else (-100001, S)
theorem WF_restore {S : sS} (w : WF S) (v : Int32) : WF (sp_restore S v).2 := by
  unfold sp_restore
  split
  · split
    · exact WF_t w _
    · exact w
  · exact w
/-! the reference's side -/
section RM1
variable {X : Fin 87 → am_C} {I : Nat → Int32} {Y : am_H} {S : sS}
theorem mrest_in {A : Nat → Nat → Int32} {K : Nat → Int32 → Int32 → Int32 → Int32 → am_H → Option (Int32 × am_H)} (w : WF S) (R : RM S I A) {v i : Nat} {t : Int32} {b0 : Bool} (hv : v < nv S) (hi : i < rl S v) : ∀ (q k j : Nat), j + k = i → k < q →
    F_X9_restore_36 K q 88 (nI v) t (bI (b0 || anyN (fun j => tn S (rw_ S v i) && (rw_ S v i == rw_ S v j)) j)) (nI i) (nI j) (md X I A Y) = K 88 (nI v) t (bI (b0 || anyN (fun j => tn S (rw_ S v i) && (rw_ S v i == rw_ S v j)) i)) (nI (i + 1)) (md X I A Y)
  | 0, k, j, h1, h2 => by omega
  | q + 1, 0, j, h1, h2 => by
    have hw := (w.2.2.2.2 v hv).1
    rw [F_X9_restore_36, if_pos (nI_le (by omega) (by omega)), nI_1, show j = i by omega]
  | q + 1, k + 1, j, h1, h2 => by
    have hw := (w.2.2.2.2 v hv).1
    have hn := w.2.2.1.1
    have b1 := hw.2 i hi
    have b2 := hw.2 j (by omega)
    have ih := mrest_in (K := K) (t := t) (b0 := b0) w R hv hi q k (j + 1) (by omega) (by omega)
    rw [show anyN (fun j => tn S (rw_ S v i) && (rw_ S v i == rw_ S v j)) (j + 1) = (anyN (fun j => tn S (rw_ S v i) && (rw_ S v i == rw_ S v j)) j || (tn S (rw_ S v i) && (rw_ S v i == rw_ S v j))) from rfl, ← Bool.or_assoc] at ih
    rw [F_X9_restore_36, if_neg (nI_ge (by omega) (by omega))]
    unfold F_X9_restore_83 F_X9_restore_79 F_X9_restore_84
    rw [nI_1]
    cases hc : (b0 || anyN (fun j => tn S (rw_ S v i) && (rw_ S v i == rw_ S v j)) j) with
    | true =>
      rw [hc, Bool.true_or] at ih
      rw [if_neg (show ¬ bI true = 0 by decide)]
      exact ih
    | false =>
      rw [hc, Bool.false_or] at ih
      rw [if_pos (show bI false = 0 from rfl), md_gr5, Option.bind_some, A8 w R hv hi, Option.bind_some, A5 w R b1, Option.bind_some]
      cases ht : tn S (rw_ S v i) with
      | false =>
        rw [ht] at ih
        rw [if_pos (show bI false = 0 from rfl)]
        exact ih
      | true =>
        rw [ht, Bool.true_and] at ih
        rw [if_neg (show ¬ bI true = 0 by decide), Option.bind_some, A8 w R hv (show j < rl S v by omega), Option.bind_some]
        by_cases e : rw_ S v i = rw_ S v j
        · rw [show (rw_ S v i == rw_ S v j) = true by simpa using e] at ih
          rw [if_pos (by rw [e])]
          exact ih
        · rw [show (rw_ S v i == rw_ S v j) = false by simpa using e] at ih
          rw [if_neg (fun z => e ((nI_eq (by omega) (by omega)).mp z))]
          exact ih
theorem mrest_set (w : WF S) {v : Nat} {t : Int32} (hv : v < nv S) : ∀ (q k i : Nat) (A : Nat → Nat → Int32), RM (S_t S (fun b => tn S b && !(anyN (fun j => rw_ S v j == b) i))) I A → i + k = rl S v → k < q →
    ∃ A', F_X9_restore_119 q 88 (nI v) t (nI i) (md X I A Y) = some (t, md X I A' Y) ∧ RM (S_t S (fun b => tn S b && !(hasB S v b))) I A'
  | 0, k, i, A, R, h1, h2 => by omega
  | q + 1, 0, i, A, R, h1, h2 => by
    have hw := (w.2.2.2.2 v hv).1
    have w' := WF_t w (fun b => tn S b && !(anyN (fun j => rw_ S v j == b) i))
    have e : i = rl S v := by omega
    subst e
    have : am_il 0 93 (nI v) (md X I A Y) = some (nI (rl S v)) := A7 (X := X) (Y := Y) w' R hv
    rw [F_X9_restore_119, md_gr7, Option.bind_some, this, Option.bind_some, if_pos (nI_le (Nat.le_refl (rl S v)) (by omega))]
    exact ⟨A, rfl, R⟩
  | q + 1, k + 1, i, A, R, h1, h2 => by
    have hw := (w.2.2.2.2 v hv).1
    have hn := w.2.2.1.1
    have hi : i < rl S v := by omega
    have b1 := hw.2 i hi
    have w' := WF_t w (fun b => tn S b && !(anyN (fun j => rw_ S v j == b) i))
    have e7 : am_il 0 93 (nI v) (md X I A Y) = some (nI (rl S v)) := A7 (X := X) (Y := Y) w' R hv
    have e8 : F_X9_blockAt 88 (nI v) (nI i) (md X I A Y) = some (nI (rw_ S v i)) := A8 (X := X) (Y := Y) w' R hv hi
    rw [F_X9_restore_119, md_gr7, Option.bind_some, e7, Option.bind_some, if_neg (nI_ge (show i < rl S v from hi) (show rl S v < 2 ^ 31 by omega)), md_gr5, Option.bind_some, e8, Option.bind_some, md_zs5, show am_z (0 : Int32) = some 0 from rfl, Option.bind_some, ix_nI (show rw_ S v i < 200 by omega) (by decide), Option.bind_some, Option.bind_some, nI_1]
    refine mrest_set w hv q k (i + 1) (upA A 5 (rw_ S v i) 0) ?_ (by omega) (by omega)
    refine ⟨R.1, R.2.1, ⟨R.2.2.1.1, fun c hc => ⟨(R.2.2.1.2 c hc).1, (R.2.2.1.2 c hc).2.1, ?_⟩⟩, R.2.2.2⟩
    show upd (A 5) (rw_ S v i) 0 c = bI (tn S c && !(anyN (fun j => rw_ S v j == c) i || (rw_ S v i == c)))
    by_cases e : c = rw_ S v i
    · rw [e, upd_self]
      simp [bI]
    · rw [upd_ne e, show (rw_ S v i == c) = false by simpa using (fun z => e z.symm), Bool.or_false]
      exact (R.2.2.1.2 c hc).2.2
theorem mrest_out {A : Nat → Nat → Int32} (w : WF S) (R : RM S I A) {v : Nat} (hv : v < nv S) : ∀ (q k i : Nat), i + k = rl S v → k < q →
    ∃ A', F_X9_restore_22 q 88 (nI v) (nI (trn S v)) (bI (anyN (fun i => anyN (fun j => tn S (rw_ S v i) && (rw_ S v i == rw_ S v j)) i) i)) (nI i) (md X I A Y) = some ((sp_restore S (nI v)).1, md X I A' Y) ∧ RM (sp_restore S (nI v)).2 I A'
  | 0, k, i, h1, h2 => by omega
  | q + 1, 0, i, h1, h2 => by
    have hw := (w.2.2.2.2 v hv).1
    have hn := w.2.2.2.1
    have ht := trn_le w hv
    have e : i = rl S v := by omega
    subst e
    rw [F_X9_restore_22, md_gr7, Option.bind_some, A7 w R hv, Option.bind_some, if_pos (nI_le (by omega) (by omega)), in_spec, Option.bind_some, Int32.toInt_toInt64, nI_toInt (by omega), show (1 : Int64).toInt = 1 from rfl, show (2 : Int64).toInt = 2 from rfl]
    unfold sp_restore F_X9_restore_113
    rw [if_pos (vd_nI hv (by omega)), cl_nI (by omega)]
    show ∃ A', (if (if (1 : Int) ≤ (trn S v : Int) ∧ (trn S v : Int) ≤ 2 then (1 : Int32) else 0) = 0 then _ else if bI (twB S v) = 0 then _ else _) = _ ∧ _
    by_cases c : 1 ≤ trn S v ∧ trn S v ≤ 2
    · rw [if_pos (show (1 : Int) ≤ (trn S v : Int) ∧ (trn S v : Int) ≤ 2 by omega), if_neg i1ne0]
      cases c2 : twB S v with
      | true =>
        rw [if_neg (show ¬ bI true = 0 by decide), if_neg (show ¬ ((1 ≤ trn S v ∧ trn S v ≤ 2) ∧ true = false) from fun z => by cases z.2)]
        exact ⟨A, rfl, R⟩
      | false =>
        rw [if_pos (show bI false = 0 from rfl), if_pos (show (1 ≤ trn S v ∧ trn S v ≤ 2) ∧ false = false from ⟨c, rfl⟩)]
        refine mrest_set w hv am_F (rl S v) 0 A ?_ (by omega) (by show _ < 100000; omega)
        refine ⟨R.1, R.2.1, ⟨R.2.2.1.1, fun c hc => ⟨(R.2.2.1.2 c hc).1, (R.2.2.1.2 c hc).2.1, ?_⟩⟩, R.2.2.2⟩
        show A 5 c = bI (tn S c && !(false))
        rw [Bool.not_false, Bool.and_true]
        exact (R.2.2.1.2 c hc).2.2
    · rw [if_neg (show ¬ ((1 : Int) ≤ (trn S v : Int) ∧ (trn S v : Int) ≤ 2) by omega), if_pos rfl, if_neg (fun z => c z.1)]
      exact ⟨A, rfl, R⟩
  | q + 1, k + 1, i, h1, h2 => by
    have hw := (w.2.2.2.2 v hv).1
    have hi : i < rl S v := by omega
    rw [F_X9_restore_22, md_gr7, Option.bind_some, A7 w R hv, Option.bind_some, if_neg (nI_ge (by omega) (by omega))]
    have := mrest_in (X := X) (Y := Y) (K := F_X9_restore_22 q) (t := nI (trn S v)) (b0 := anyN (fun i => anyN (fun j => tn S (rw_ S v i) && (rw_ S v i == rw_ S v j)) i) i) w R hv hi am_F i 0 (by omega) (by show _ < 100000; omega)
    rw [show anyN (fun j => tn S (rw_ S v i) && (rw_ S v i == rw_ S v j)) 0 = false from rfl, Bool.or_false] at this
    rw [show (0 : Int32) = nI 0 from rfl, this]
    exact mrest_out w R hv q k (i + 1) (by omega) (by omega)
theorem m_restore {A : Nat → Nat → Int32} (w : WF S) (R : RM S I A) (v : Int32) : ∃ A', F_X9_restore 88 v (md X I A Y) = some ((sp_restore S v).1, md X I A' Y) ∧ RM (sp_restore S v).2 I A' := by
  unfold F_X9_restore F_X9_restore_b
  rw [md_obj, Option.bind_some]
  by_cases hv : vd (nv S) v
  · obtain ⟨u, hu, rfl⟩ := nI_of_toInt hv.1 hv.2
    have hw := (w.2.2.2.2 u hu).1
    rw [noV_t w R hv, Option.bind_some, if_pos rfl, tornIn_spec w R hu, Option.bind_some]
    exact mrest_out w R hu am_F (rl S u) 0 (by omega) (by show _ < 100000; omega)
  · unfold sp_restore
    rw [if_neg hv, noV_f w R hv, Option.bind_some, if_neg i1ne0]
    exact ⟨A, rfl, R⟩
end RM1
