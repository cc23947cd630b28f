section RX2
variable {Z : sZ} {S : sS} {pb pv : Nat → Nat} {h : am_H}
theorem hasB_t {v b : Nat} : hasB S v b = true ↔ ∃ i, i < rl S v ∧ rw_ S v i = b := by
  unfold hasB
  constructor
  · intro z
    obtain ⟨i, h1, h2⟩ := anyN_t.mp z
    exact ⟨i, h1, by simpa using h2⟩
  · rintro ⟨i, h1, h2⟩
    exact anyN_t.mpr ⟨i, h1, by simpa using h2⟩
/-- only what is told of blocks that are there counts -/
theorem RX.tn_cong {t t' : Nat → Bool} (C : RX Z (S_t S t) pb pv h) (e : ∀ b, b < nb S → t b = t' b) : RX Z (S_t S t') pb pv h := by
  obtain ⟨k1, k2, k3, k4, k5, k6, k7, k8, k9, k10⟩ := C
  refine ⟨k1, k2, k3, k4, k5, fun b hb => ?_, k7, k8, k9, k10⟩
  have := k6 b hb
  show BlkAt Z h _ _ _ (t' b)
  rw [← e b hb]
  exact this
theorem blk_got (w : WF S) (C : RX Z S pb pv h) {b : Nat} (hb : b < nb S) : Got S pb h b 0 := by
  obtain ⟨f, r, -⟩ := (C.2.2.2.2.2.1 b hb).2.1
  exact ⟨f, r, fun j hj => by omega⟩
theorem x_restore (w : WF S) (C : RX Z S pb pv h) (v : Int32) : ∃ h', F_X8_restore 1 v h = some ((sp_restore S v).1, h') ∧ RX Z (sp_restore S v).2 pb pv h' ∧ Fr (fun q => 116 ≤ q) h h' := by
  unfold sp_restore F_X8_restore F_X8_restore_b F_X8_restore_29
  rw [C.ob]
  by_cases hv : vd (nv S) v
  · obtain ⟨u, hu, rfl⟩ := nI_of_toInt hv.1 hv.2
    have hn := w.2.2.2.1
    have hnb := w.2.2.1.1
    have ht := trn_le w hu
    have hw := (w.2.2.2.2 u hu).1
    have V := C.2.2.2.2.2.2.1 u hu
    obtain ⟨g, hg, hg2⟩ := V.2.1
    rw [if_pos hv, cl_nI (show u < 2 ^ 31 by omega), versionOf_t w C hu, Option.bind_some, if_neg (rD_ne _), tornBlocks_t w C hu, Option.bind_some]
    have htr : trn S u = cntN (fun j => tn S (rw_ S u j)) (rl S u) := sumN_bN _ _
    obtain ⟨t1, t2⟩ := torn_two (p := fun j => tn S (rw_ S u j)) (n := rl S u)
    rw [← htr] at t1 t2
    by_cases c1 : trn S u = 0
    · rw [if_pos (show nI (trn S u) < (1 : Int32) from nI_lt (b := 1) (by omega) (by omega)), if_neg (fun q => by omega)]
      exact ⟨h, rfl, C, Fr.rf⟩
    · rw [if_neg (show ¬ nI (trn S u) < (1 : Int32) from nI_nlt (b := 1) (by omega) (by omega))]
      by_cases c2 : trn S u ≤ 2
      · rw [if_pos (show nI (trn S u) ≤ (2 : Int32) from nI_le (b := 2) (by omega) (by omega)), show (0 : Int32) = nI 0 from rfl, nextTorn_t w C hu (Nat.zero_le _), Option.bind_some, Nat.sub_zero]
        by_cases c3 : trn S u = 1
        · obtain ⟨a1, a2, a3, a4⟩ := t1 c3
          have hbf := hw.2 _ a1
          generalize hfe : fst2 (fun j => tn S (rw_ S u j)) (rl S u) 0 = f at a1 a2 a3 a4 hbf
          rw [if_neg (show ¬ f = rl S u by omega), nI_1, nextTorn_t w C hu (show f + 1 ≤ rl S u by omega), Option.bind_some, a2, if_pos rfl, V.f.1, Option.bind_some, row_at hg a1, Option.bind_some, Option.bind_some, hg2 f a1, row_at_out hg (fun q => by have := q.1; revert this; decide), Option.bind_some]
          rw [if_neg (fun e => by have h6 : nI (rw_ S u f) < 0 := by rw [e]; decide
                                  exact nI_pos (by omega) h6)]
          have htw : twB S u = false := by
            cases z : twB S u with
            | false => rfl
            | true =>
              obtain ⟨i, j, j1, j2, j3, j4⟩ := twB_t.mp z
              have i1 : i = f := by
                by_cases e : i = f
                · exact e
                · rw [a4 i j2 e] at j3; cases j3
              have i2 : j = f := by
                by_cases e : j = f
                · exact e
                · rw [j4, a4 j (by omega) e] at j3; cases j3
              omega
          rw [if_pos (show (1 ≤ trn S u ∧ trn S u ≤ 2) ∧ twB S u = false from ⟨by omega, htw⟩)]
          obtain ⟨h', e, C', F⟩ := solve1 w hu a1 a3 a4 am_F 24 0 h C (blk_got w C hbf) (by omega) (by show _ < 100000; omega)
          refine ⟨h', ?_, C'.tn_cong (fun b hb => ?_), F⟩
          · unfold F_X8_solve F_X8_solve_b
            rw [C.ob, V.f.1, Option.bind_some, row_at hg a1, Option.bind_some, hg2 f a1, blockOf_t w C hbf, Option.bind_some, Option.bind_some, row_at_out hg (fun q => by have := q.1; revert this; decide), Option.bind_some, blockOf_f w C (fun q => by have := q.1; revert this; decide), Option.bind_some, show (0 : Int32) = nI 0 from rfl, e, Option.bind_some]
          · show (if b = rw_ S u f then false else tn S b) = (tn S b && !(hasB S u b))
            by_cases z : b = rw_ S u f
            · rw [if_pos z, hasB_t.mpr ⟨f, a1, z.symm⟩, Bool.not_true, Bool.and_false]
            · rw [if_neg z]
              cases hh : hasB S u b with
              | false => rw [Bool.not_false, Bool.and_true]
              | true =>
                obtain ⟨i, i1, i2⟩ := hasB_t.mp hh
                have := a4 i i1 (fun q => z (by rw [← i2, q]))
                rw [← i2]
                show tn S (rw_ S u i) = _
                have e9 : tn S (rw_ S u i) = false := this
                rw [e9]; rfl
        · obtain ⟨a1, a2, a3, a4, a5, a6⟩ := t2 (by omega)
          have hbf := hw.2 _ a1
          have hbl := hw.2 _ a2
          generalize hfe : fst2 (fun j => tn S (rw_ S u j)) (rl S u) 0 = f at a1 a2 a3 a4 a5 a6 hbf hbl
          rw [if_neg (show ¬ f = rl S u by omega), nI_1, nextTorn_t w C hu (show f + 1 ≤ rl S u by omega), Option.bind_some]
          generalize hle : fst2 (fun j => tn S (rw_ S u j)) (rl S u - (f + 1)) (f + 1) = l at a2 a3 a5 a6 hbl
          rw [if_neg (show ¬ l = rl S u by omega), V.f.1, Option.bind_some, row_at hg a1, Option.bind_some, Option.bind_some, hg2 f a1, row_at hg a2, Option.bind_some, hg2 l a2]
          by_cases c4 : rw_ S u f = rw_ S u l
          · rw [if_pos (by rw [c4]), if_neg (fun q => by
              have := twB_t.mpr ⟨l, f, a3, a2, a5, c4.symm⟩
              rw [q.2] at this; cases this)]
            exact ⟨h, rfl, C, Fr.rf⟩
          · rw [if_neg (fun e => c4 ((nI_eq (by omega) (by omega)).mp e))]
            have htw : twB S u = false := by
              cases z : twB S u with
              | false => rfl
              | true =>
                obtain ⟨i, j, j1, j2, j3, j4⟩ := twB_t.mp z
                have i1 : i = f ∨ i = l := by
                  by_cases e : i = f
                  · exact Or.inl e
                  · by_cases e2 : i = l
                    · exact Or.inr e2
                    · rw [a6 i j2 e e2] at j3; cases j3
                have i2 : j = f ∨ j = l := by
                  by_cases e : j = f
                  · exact Or.inl e
                  · by_cases e2 : j = l
                    · exact Or.inr e2
                    · rw [j4, a6 j (by omega) e e2] at j3; cases j3
                have : i = l ∧ j = f := by omega
                rw [this.1, this.2] at j4
                exact absurd j4.symm c4
            rw [if_pos (show (1 ≤ trn S u ∧ trn S u ≤ 2) ∧ twB S u = false from ⟨by omega, htw⟩)]
            obtain ⟨h', e, C', F⟩ := solve2 w hu a3 a2 a4 a5 c4 a6 am_F 24 0 h C (blk_got w C hbf) (blk_got w C hbl) (by omega) (by show _ < 100000; omega)
            refine ⟨h', ?_, C'.tn_cong (fun b hb => ?_), F⟩
            · unfold F_X8_solve F_X8_solve_b
              rw [C.ob, V.f.1, Option.bind_some, row_at hg a1, Option.bind_some, hg2 f a1, blockOf_t w C hbf, Option.bind_some, Option.bind_some, row_at hg a2, Option.bind_some, hg2 l a2, blockOf_t w C hbl, Option.bind_some, show (0 : Int32) = nI 0 from rfl, e, Option.bind_some]
            · show (if b = rw_ S u l then false else if b = rw_ S u f then false else tn S b) = (tn S b && !(hasB S u b))
              by_cases z : b = rw_ S u l
              · rw [if_pos z, hasB_t.mpr ⟨l, a2, z.symm⟩, Bool.not_true, Bool.and_false]
              · rw [if_neg z]
                by_cases z2 : b = rw_ S u f
                · rw [if_pos z2, hasB_t.mpr ⟨f, a1, z2.symm⟩, Bool.not_true, Bool.and_false]
                · rw [if_neg z2]
                  cases hh : hasB S u b with
                  | false => rw [Bool.not_false, Bool.and_true]
                  | true =>
                    obtain ⟨i, i1, i2⟩ := hasB_t.mp hh
                    have e9 : tn S (rw_ S u i) = false := a6 i i1 (fun q => z2 (by rw [← i2, q])) (fun q => z (by rw [← i2, q]))
                    rw [← i2]
                    show tn S (rw_ S u i) = _
                    rw [e9]; rfl
      · rw [if_neg (show ¬ nI (trn S u) ≤ (2 : Int32) from nI_ge (a := 2) (by omega) (by omega)), if_neg (fun q => by omega)]
        exact ⟨h, rfl, C, Fr.rf⟩
  · rw [if_neg hv, versionOf_f w C hv, Option.bind_some, if_pos rfl]
    exact ⟨h, rfl, C, Fr.rf⟩
theorem o_restore : am_op_restore (Inv Z) := by
  rintro h a0 ⟨S, pb, pv, X, I, A, Y, w, R, rfl, C, hn⟩
  obtain ⟨h1, e, C', F⟩ := x_restore w C a0
  obtain ⟨h2, e2, hI⟩ := Inv.fin (f := F_X9_restore 88 a0) (r := (sp_restore S a0).1) (WF_restore w a0) (fun q q1 q2 => F.2.2 q (by omega)) C' (by rw [F.2.1]; refine Nat.le_trans hn (Nat.le_of_eq ?_); unfold sp_restore; (repeat' split) <;> rfl) (fun X Y => by obtain ⟨A', e, R'⟩ := m_restore (X := X) (Y := Y) w R a0; exact ⟨I, A', e, R'⟩)
  exact ⟨_, h1, h2, e, e2, hI⟩
end RX2
