/-! rule -/
def ruV (s : Nat → Nat) (n : Nat) (x i : Int32) : Int32 := if x = 0 then nI (ruC s n).1.length else if x = 1 then nI (ruL s n) else if x = 2 then nI (gW s n).1 else if x = 3 then (if vd (ruC s n).1.length i then nI (gD (ruC s n).1 i.toNatClampNeg) else -1) else if x = 4 then (if vd (gW s n).1 i then nI ((ruC s n).2 i.toNatClampNeg).length else -1) else if vd (gW s n).1 i ∧ vd ((ruC s n).2 i.toNatClampNeg).length (x - 10) then nI (gD ((ruC s n).2 i.toNatClampNeg) (x - 10).toNatClampNeg) else -1
def sp_rule (S : sS) (b x i : Int32) : Int32 := if vd (nb S) b then (if x.toInt < 0 ∨ (5 ≤ x.toInt ∧ x.toInt ≤ 9) then -100002 else if tn S b.toNatClampNeg = true then -100005 else ruV (sg S b.toNatClampNeg) (ln S b.toNatClampNeg) x i) else -100001
theorem ruL_cong {n : Nat} {R R' : Nat → List Nat} (h : ∀ j, j < n → R j = R' j) : cntN (fun j => decide (0 < (R j).length)) n = cntN (fun j => decide (0 < (R' j).length)) n := cntN_cong n (fun i hi => by rw [h i hi])
section RU
variable {Z : sZ} {S : sS} {pb pv : Nat → Nat} {h : am_H}
theorem RX.ua (C : RX Z S pb pv h) : ∃ n fo la l sp R, UA h n fo la l sp R := by
  obtain ⟨s1, s2, s3, s4, s5, ⟨⟨a, b, c, o1⟩, ⟨n, f, o2⟩, ⟨g, o3, o4⟩, ⟨n', f', o5⟩⟩, s7⟩ := C.2.2.2.2.2.2.2.1
  have lr : ∀ {a n : Nat} {f : Nat → Int32}, RowAt h a 24 n f → LR h a (sL (fun j => ofI (f j)) n) := fun r => ⟨_, by rw [sL_len]; exact r, fun j hj => by rw [sL_len] at hj; rw [sL_at hj]; exact ofI_t _⟩
  have hR : ∀ k, ∃ l, k < 12 → LR h (36 + 2 * k) l := fun k => by
    by_cases hk : k < 12
    · obtain ⟨-, n, f, r⟩ := o4 k hk
      exact ⟨_, fun _ => lr r⟩
    · exact ⟨[], fun z => absurd z hk⟩
  rw [ofI_t a] at o1
  exact ⟨_, b, c, _, _, fun k => Classical.choose (hR k), o1, lr o2, lr o5, ⟨g, o3, fun k hk => (o4 k hk).1⟩, fun k hk => Classical.choose_spec (hR k) hk⟩
theorem UA.scr {h' : am_H} {n : Nat} {fo la : Int32} {l sp : List Nat} {R : Nat → List Nat} (C : RX Z S pb pv h) (G : Fr inU h h') (U : UA h' n fo la l sp R) : RX Z S pb pv h' := by
  obtain ⟨o, ⟨f1, r1, -⟩, ⟨f2, r2, -⟩, ⟨g, hg, hg2⟩, hR⟩ := U
  exact C.scr G (fun q z => by unfold inU at z; omega) (C.2.2.2.2.2.2.2.1.U G ⟨⟨_, _, _, o⟩, ⟨_, _, r1⟩, ⟨g, hg, fun k hk => ⟨hg2 k hk, by obtain ⟨f, r, -⟩ := hR k hk; exact ⟨_, _, r⟩⟩⟩, ⟨_, _, r2⟩⟩)
theorem rules_t (w : WF S) (C : RX Z S pb pv h) {b : Nat} (hb : b < nb S) (ht : tn S b = false) : ∃ h' fo la sp R, F_X5_squeeze 30 (rD (pb b) + 5) h = some h' ∧ RX Z S pb pv h' ∧ UA h' (gW (sg S b) (ln S b)).1 fo la (ruC (sg S b) (ln S b)).1 sp R ∧ Fr inU h h' ∧ (∀ j, j < (gW (sg S b) (ln S b)).1 → R j = (ruC (sg S b) (ln S b)).2 j) := by
  obtain ⟨n, fo, la, l, sp, R, U⟩ := C.ua
  obtain ⟨h', fo', la', sp', R', e, U', G, g⟩ := squeezeU_t (C.sgAt w hb ht) U
  exact ⟨h', fo', la', sp', R', e, U'.scr C G, U', G, g⟩
theorem x_rule (w : WF S) (C : RX Z S pb pv h) (b x i : Int32) : ∃ h', F_X8_rule 1 b x i h = some (sp_rule S b x i, h') ∧ RX Z S pb pv h' ∧ Fr inU h h' := by
  unfold sp_rule F_X8_rule F_X8_rule_b F_X8_rule_30
  rw [C.ob]
  have a0 : (x < (0 : Int32)) ↔ x.toInt < 0 := (lt_lit (x := x) (n := 0) (by decide)).1
  have a1 : (x ≤ (4 : Int32)) ↔ x.toInt ≤ 4 := (lt_lit (x := x) (n := 4) (by decide)).2.2.1
  have a2 : ((10 : Int32) ≤ x) ↔ 10 ≤ x.toInt := (lt_lit (x := x) (n := 10) (by decide)).2.2.2
  by_cases hb : vd (nb S) b
  · obtain ⟨j, hj, rfl⟩ := nI_of_toInt hb.1 hb.2
    have hn := w.2.2.1.1
    have hl := (w.2.2.1.2 j hj)
    have B := C.2.2.2.2.2.1 j hj
    rw [if_pos hb, cl_nI (show j < 2 ^ 31 by omega), blockOf_t w C hj, Option.bind_some, if_neg (rD_ne _)]
    have main : ¬ (x.toInt < 0 ∨ (5 ≤ x.toInt ∧ x.toInt ≤ 9)) → ∃ h', F_X8_rule_33 1 x i (rD (pb j)) h = some (if tn S j = true then -100005 else ruV (sg S j) (ln S j) x i, h') ∧ RX Z S pb pv h' ∧ Fr inU h h' := fun hx => by
      unfold F_X8_rule_33
      rw [B.f.2.2.2, Option.bind_some]
      cases ht : tn S j with
      | true =>
        rw [if_neg (show ¬ bI true = 0 by decide), if_pos (rfl : true = true)]
        exact ⟨h, rfl, C, Fr.rf⟩
      | false =>
        obtain ⟨h', fo, la, sp, R, e, C', U, G, g⟩ := rules_t w C hj ht
        obtain ⟨ok, hn11⟩ := ruC_ok hl.2 hl.1.2
        have hle := (CI_len ok).1
        refine ⟨h', ?_, C', G⟩
        rw [if_pos (show bI false = 0 from rfl), if_neg (show ¬ false = true by decide), C.gr (k := 12) (x := 30) (fun _ => rfl), Option.bind_some, B.f.1, Option.bind_some, e, Option.bind_some]
        unfold ruV
        have hn12 : (gW (sg S j) (ln S j)).1 ≤ 12 := by omega
        simp only [C'.gr (k := 12) (x := 30) (fun _ => rfl), Option.bind_some, U.gr.1, U.2.1.len, U.left hn12, U.gr.2.2.2.1, U.lengthOf hn12, U.pieceOf hn12]
        by_cases c0 : x = 0
        · rw [if_pos c0, if_pos c0]
        rw [if_neg c0, if_neg c0]
        by_cases c1 : x = 1
        · rw [if_pos c1, if_pos c1, ruL_cong g]; rfl
        rw [if_neg c1, if_neg c1]
        by_cases c2 : x = 2
        · rw [if_pos c2, if_pos c2]
        rw [if_neg c2, if_neg c2]
        by_cases c3 : x = 3
        · rw [if_pos c3, if_pos c3]
          by_cases ci : vd (ruC (sg S j) (ln S j)).1.length i
          · rw [if_pos ci]
            obtain ⟨z, hz, rfl⟩ := nI_of_toInt ci.1 ci.2
            rw [U.2.1.at hz, Option.bind_some, cl_nI (by omega)]
          · rw [if_neg ci, U.2.1.out ci, Option.bind_some]
        rw [if_neg c3, if_neg c3]
        by_cases c4 : x = 4
        · rw [if_pos c4, if_pos c4]
          by_cases ci : vd (gW (sg S j) (ln S j)).1 i
          · obtain ⟨z, hz, rfl⟩ := nI_of_toInt ci.1 ci.2
            rw [if_pos ci, if_pos ci, cl_nI (by omega), g z hz]
          · rw [if_neg ci, if_neg ci]
        rw [if_neg c4, if_neg c4]
        by_cases ci : vd (gW (sg S j) (ln S j)).1 i
        · obtain ⟨z, hz, rfl⟩ := nI_of_toInt ci.1 ci.2
          rw [cl_nI (by omega), g z hz]
        · rw [if_neg (fun z => ci z.1), if_neg (fun z => ci z.1)]
    by_cases c1 : x.toInt < 0
    · rw [if_pos (a0.mpr c1), if_pos (show x.toInt < 0 ∨ (5 ≤ x.toInt ∧ x.toInt ≤ 9) from Or.inl c1)]
      exact ⟨h, rfl, C, Fr.rf⟩
    rw [if_neg (fun q => c1 (a0.mp q))]
    by_cases c2 : x.toInt ≤ 4
    · rw [if_pos (a1.mpr c2), if_neg (show ¬ (x.toInt < 0 ∨ (5 ≤ x.toInt ∧ x.toInt ≤ 9)) by omega)]
      exact main (by omega)
    rw [if_neg (fun q => c2 (a1.mp q))]
    by_cases c3 : 10 ≤ x.toInt
    · rw [if_pos (a2.mpr c3), if_neg (show ¬ (x.toInt < 0 ∨ (5 ≤ x.toInt ∧ x.toInt ≤ 9)) by omega)]
      exact main (by omega)
    · rw [if_neg (fun q => c3 (a2.mp q)), if_pos (show x.toInt < 0 ∨ (5 ≤ x.toInt ∧ x.toInt ≤ 9) by omega)]
      exact ⟨h, rfl, C, Fr.rf⟩
  · rw [if_neg hb, blockOf_f w C hb, Option.bind_some, if_pos rfl]
    exact ⟨h, rfl, C, Fr.rf⟩
end RU
section RUM
variable {X : Fin 87 → am_C} {I : Nat → Int32} {A : Nat → Nat → Int32} {Y : am_H} {S : sS}
theorem mleft_loop {n : Nat} {l : List Nat} {R : Nat → List Nat} (M : MU I A l n R) (hn : n ≤ 23) (hR : ∀ j, j < n → (R j).length ≤ 24) : ∀ (q k j : Nat), j + k = n → k < q → F_X9_rulesLeft_4 q 88 (nI (cntN (fun j => decide (0 < (R j).length)) j)) (nI j) (md X I A Y) = some (nI (cntN (fun j => decide (0 < (R j).length)) n))
  | 0, k, j, h1, h2 => by omega
  | q + 1, 0, j, h1, h2 => by
    rw [F_X9_rulesLeft_4, md_gi25, Option.bind_some, M.2.1, if_pos (nI_le (by omega) (by omega)), show j = n by omega]
  | q + 1, k + 1, j, h1, h2 => by
    have ih := mleft_loop M hn hR q k (j + 1) (by omega) (by omega)
    have hle := hR j (by omega)
    rw [show cntN (fun j => decide (0 < (R j).length)) (j + 1) = cntN (fun j => decide (0 < (R j).length)) j + bN (decide (0 < (R j).length)) from rfl] at ih
    rw [F_X9_rulesLeft_4, md_gi25, Option.bind_some, M.2.1, if_neg (nI_ge (by omega) (by omega)), md_gr26, Option.bind_some, md_il26, ix_nI (show j < 24 by omega) (by decide), Option.bind_some, Option.bind_some, (M.2.2 j (by omega)).1]
    unfold F_X9_rulesLeft_27
    rw [nI_1]
    by_cases c : 0 < (R j).length
    · rw [if_neg (nI_nle c (by omega)), one_spec, Option.bind_some, oneI_1, nI_add]
      rw [decide_eq_true c] at ih
      exact ih
    · rw [if_pos (show nI (R j).length ≤ 0 by rw [show (R j).length = 0 by omega]; decide), one_spec, Option.bind_some, oneI_z, nI_add]
      rw [decide_eq_false c] at ih
      exact ih
theorem mleft_t {n : Nat} {l : List Nat} {R : Nat → List Nat} (M : MU I A l n R) (hn : n ≤ 23) (hR : ∀ j, j < n → (R j).length ≤ 24) : F_X9_rulesLeft 88 (md X I A Y) = some (nI (cntN (fun j => decide (0 < (R j).length)) n)) := by
  unfold F_X9_rulesLeft F_X9_rulesLeft_b
  rw [md_obj, Option.bind_some]
  exact mleft_loop M hn hR am_F n 0 (by omega) (by show _ < 100000; omega)
theorem m_rule (w : WF S) (R : RM S I A) (b x i : Int32) : ∃ I' A', F_X9_rule 88 b x i (md X I A Y) = some (sp_rule S b x i, md X I' A' Y) ∧ RM S I' A' := by
  unfold sp_rule F_X9_rule F_X9_rule_b F_X9_rule_29 F_X9_rule_81 F_X9_rule_113 F_X9_rule_177
  rw [md_obj, Option.bind_some]
  have a0 : (x < (0 : Int32)) ↔ x.toInt < 0 := (lt_lit (x := x) (n := 0) (by decide)).1
  have a1 : ((3 : Int32) ≤ x) ↔ 3 ≤ x.toInt := (lt_lit (x := x) (n := 3) (by decide)).2.2.2
  by_cases hb : vd (nb S) b
  · obtain ⟨j, hj, rfl⟩ := nI_of_toInt hb.1 hb.2
    have hn := w.2.2.1.1
    have hl := (w.2.2.1.2 j hj)
    rw [if_pos hb, cl_nI (show j < 2 ^ 31 by omega), noB_t w R hb, Option.bind_some, if_pos rfl]
    by_cases c1 : x.toInt < 0
    · rw [if_pos (a0.mpr c1), if_pos (show x.toInt < 0 ∨ (5 ≤ x.toInt ∧ x.toInt ≤ 9) from Or.inl c1)]
      exact ⟨I, A, rfl, R⟩
    rw [if_neg (fun q => c1 (a0.mp q)), in_spec, Option.bind_some, Int32.toInt_toInt64, show (5 : Int64).toInt = 5 from rfl, show (9 : Int64).toInt = 9 from rfl]
    by_cases c2 : 5 ≤ x.toInt ∧ x.toInt ≤ 9
    · rw [if_pos c2, if_neg i1ne0, if_pos (show x.toInt < 0 ∨ (5 ≤ x.toInt ∧ x.toInt ≤ 9) from Or.inr c2)]
      exact ⟨I, A, rfl, R⟩
    rw [if_neg c2, if_pos rfl, if_neg (show ¬ (x.toInt < 0 ∨ (5 ≤ x.toInt ∧ x.toInt ≤ 9)) by omega), md_gr5, Option.bind_some, A5 w R hj, Option.bind_some]
    cases ht : tn S j with
    | true =>
      rw [if_neg (show ¬ bI true = 0 by decide), if_pos (rfl : true = true)]
      exact ⟨I, A, rfl, R⟩
    | false =>
      obtain ⟨I', A', e, M, c⟩ := findRules_t (X := X) (Y := Y) w R hj
      obtain ⟨ok, hn11⟩ := ruC_ok hl.2 hl.1.2
      have hle := (CI_len ok).1
      have hR2 := (CI_len ok).2
      refine ⟨I', A', ?_, c.rm R⟩
      rw [if_pos (show bI false = 0 from rfl), if_neg (show ¬ false = true by decide), e, Option.bind_some]
      unfold ruV
      have lits : ∀ k : Nat, k < 100 → (x = nI k ↔ x.toInt = k) := fun k hk => by rw [← Int32.toInt_inj, nI_toInt (by omega)]
      have l0 : x = 0 ↔ x.toInt = 0 := lits 0 (by omega)
      have l1 : x = 1 ↔ x.toInt = 1 := lits 1 (by omega)
      have l2 : x = 2 ↔ x.toInt = 2 := lits 2 (by omega)
      have l3 : x = 3 ↔ x.toInt = 3 := lits 3 (by omega)
      have l4 : x = 4 ↔ x.toInt = 4 := lits 4 (by omega)
      by_cases c3 : 3 ≤ x.toInt
      · rw [if_pos (a1.mpr c3), if_neg (show ¬ x = 0 from fun z => by have := l0.mp z; omega), if_neg (show ¬ x = 1 from fun z => by have := l1.mp z; omega), if_neg (show ¬ x = 2 from fun z => by have := l2.mp z; omega)]
        by_cases c4 : x = 3
        · rw [if_pos c4, if_pos c4, md_gi24, Option.bind_some, M.1.1, in_spec, Option.bind_some, Int32.toInt_toInt64, Int32.toInt_toInt64, nI_pre (by omega), show (0 : Int64).toInt = 0 from rfl]
          by_cases ci : vd (ruC (sg S j) (ln S j)).1.length i
          · rw [if_pos (show 0 ≤ i.toInt ∧ i.toInt ≤ (((ruC (sg S j) (ln S j)).1.length : Nat) : Int) - 1 by unfold vd at ci; omega), if_neg i1ne0, if_pos ci]
            obtain ⟨z, hz, rfl⟩ := nI_of_toInt ci.1 ci.2
            rw [md_gr23, Option.bind_some, md_il23, ix_nI (show z < 24 by omega) (by decide), Option.bind_some, Option.bind_some, M.1.2 z hz, cl_nI (by omega)]
          · rw [if_neg (show ¬ (0 ≤ i.toInt ∧ i.toInt ≤ (((ruC (sg S j) (ln S j)).1.length : Nat) : Int) - 1) by unfold vd at ci; omega), if_pos rfl, if_neg ci]
        · rw [if_neg c4, if_neg c4, md_gi25, Option.bind_some, M.2.1, in_spec, Option.bind_some, Int32.toInt_toInt64, Int32.toInt_toInt64, nI_pre (by omega), show (0 : Int64).toInt = 0 from rfl]
          by_cases ci : vd (gW (sg S j) (ln S j)).1 i
          · rw [if_pos (show 0 ≤ i.toInt ∧ i.toInt ≤ (((gW (sg S j) (ln S j)).1 : Nat) : Int) - 1 by unfold vd at ci; omega), if_neg i1ne0]
            obtain ⟨z, hz, rfl⟩ := nI_of_toInt ci.1 ci.2
            obtain ⟨k1, k2⟩ := M.2.2 z hz
            have hz24 := hR2 z hz
            rw [md_gr26, Option.bind_some, md_il26, ix_nI (show z < 24 by omega) (by decide), Option.bind_some, Option.bind_some, k1, cl_nI (show z < 2 ^ 31 by omega)]
            by_cases c5 : x = 4
            · rw [if_pos c5, if_pos c5, if_pos ci]
            · rw [if_neg c5, if_neg c5]
              have hx4 : ¬ x.toInt = 4 := fun q => c5 (l4.mpr q)
              have hx3 : ¬ x.toInt = 3 := fun q => c4 (l3.mpr q)
              obtain ⟨y, hy, rfl⟩ := nI_of (x := x) (fun q => c1 (a0.mp q))
              rw [nI_toInt hy] at c1 c2 c3 hx4 hx3
              rw [Option.bind_some, md_il26, ix_nI (show z < 24 by omega) (by decide), Option.bind_some, Option.bind_some, k1, show (10 : Int32) = nI 10 from rfl, nI_subN (show 10 ≤ y by omega)]
              by_cases c6 : y - 10 < ((ruC (sg S j) (ln S j)).2 z).length
              · rw [if_neg (nI_ge c6 (by omega)), if_pos ⟨ci, vd_nI c6 (by omega)⟩, md_gr27, Option.bind_some, show (24 : Int32) = nI 24 from rfl, nI_mulN, nI_add, nI_subN (by omega), md_il27, ix_nI (show 24 * z + y - 10 < 576 by omega) (by decide), Option.bind_some, Option.bind_some, show 24 * z + y - 10 = 24 * z + (y - 10) by omega, k2 _ c6, cl_nI (by omega)]
              · rw [if_pos (nI_le (by omega) (by omega)), if_neg (fun q => by have := q.2; unfold vd at this; rw [nI_toInt (by omega)] at this; omega)]
          · rw [if_neg (show ¬ (0 ≤ i.toInt ∧ i.toInt ≤ (((gW (sg S j) (ln S j)).1 : Nat) : Int) - 1) by unfold vd at ci; omega), if_pos rfl, if_neg ci, if_neg (show ¬ (vd (gW (sg S j) (ln S j)).1 i ∧ vd ((ruC (sg S j) (ln S j)).2 i.toNatClampNeg).length (x - 10)) from fun z => ci z.1)]
            split <;> rfl
      · rw [if_neg (fun q => c3 (a1.mp q)), md_gi24, Option.bind_some, M.1.1, mleft_t M (by omega) (fun k hk => by have := hR2 k hk; omega), Option.bind_some, md_gi25, Option.bind_some, M.2.1]
        by_cases d0 : x = 0
        · rw [if_pos d0, if_pos d0]
        rw [if_neg d0, if_neg d0]
        by_cases d1 : x = 1
        · rw [if_pos d1, if_pos d1]; rfl
        have h7 : ¬ x.toInt = 0 := fun z => d0 (l0.mpr z)
        have h8 : ¬ x.toInt = 1 := fun z => d1 (l1.mpr z)
        have h9 : x.toInt = 2 := by omega
        rw [if_neg d1, if_neg d1, if_pos (l2.mpr h9)]
  · rw [if_neg hb, noB_f w R hb, Option.bind_some, if_neg i1ne0]
    exact ⟨I, A, rfl, R⟩
end RUM
section OPS11
variable {Z : sZ}
theorem o_rule : am_op_rule (Inv Z) := by
  rintro h a0 a1 a2 ⟨S, pb, pv, X, I, A, Y, w, R, rfl, C, hn⟩
  obtain ⟨h1, e, C', F⟩ := x_rule w C a0 a1 a2
  obtain ⟨h2, e2, hI⟩ := Inv.fin (f := F_X9_rule 88 a0 a1 a2) (r := sp_rule S a0 a1 a2) w (fun q q1 q2 => F.2.2 q (by unfold inU; omega)) C' (by rw [F.2.1]; exact hn) (fun X Y => m_rule w R a0 a1 a2)
  exact ⟨_, h1, h2, e, e2, hI⟩
end OPS11
