/-! the reference lays a block, notes a version -/
theorem lay_vs (S : sS) (n : Nat) (g : Nat → Nat) : (layS S n g).1 = S.1 ∧ (layS S n g).2.1 = S.2.1 ∧ (layS S n g).2.2.2 = S.2.2.2 := by
  unfold layS
  split <;> exact ⟨rfl, rfl, rfl⟩
theorem lay_ok {S : sS} {n : Nat} {g : Nat → Nat} : nb (layS S n g) = nb S + layN S n g ∧ lkB S n g < nb (layS S n g) ∧ tn (layS S n g) (lkB S n g) = false ∧ (∀ b, b < nb S → tn (layS S n g) b = tn S b) ∧ layN S n g ≤ 1 := by
  have hle := lkB_le S n g
  unfold layS layN
  by_cases c : lkB S n g < nb S
  · rw [if_pos c, if_pos c]
    refine ⟨rfl, c, ?_, fun b hb => rfl, Nat.zero_le _⟩
    have hs := (fst2_spec (sameB S n g) (nb S) 0).2.2.2 (by rw [Nat.zero_add]; exact c)
    have hs : sameB S n g (lkB S n g) = true := hs
    unfold sameB at hs
    rw [Bool.and_eq_true] at hs
    cases ht : tn S (lkB S n g) with
    | false => rfl
    | true => rw [ht] at hs; exact absurd hs.1 (by decide)
  · rw [if_neg c, if_neg c, show lkB S n g = nb S by omega]
    exact ⟨rfl, by show nb S < nb S + 1; omega, S_b_new.2.2, fun b hb => (S_b_ln hb).2.2.1, Nat.le_refl _⟩
theorem WF_lay {S : sS} (w : WF S) {n : Nat} {g : Nat → Nat} (hn : 1 ≤ n ∧ n ≤ 24) (hg : ∀ k, k < n → g k < 16) (hb : nb S < 200) : WF (layS S n g) := by
  unfold layS
  split
  · exact w
  · exact WF_b w hn hg hb
def MN (I : Nat → Int32) (A : Nat → Nat → Int32) (n : Nat) (g : Nat → Nat) : Prop := I 14 = nI n ∧ ∀ k, k < n → A 13 k = nI (g k)
def MP (I : Nat → Int32) (A : Nat → Nat → Int32) (n : Nat) (f : Nat → Nat) (c : Nat) : Prop := I 16 = nI n ∧ I 17 = nI c ∧ ∀ j, j < n → A 15 j = nI (f j)
section LM
variable {X : Fin 87 → am_C} {Y : am_H} {S : sS} {I : Nat → Int32} {A : Nat → Nat → Int32} {n : Nat} {g : Nat → Nat}
theorem same_30 (w : WF S) (R : RM S I A) (M : MN I A n g) (hg : ∀ k, k < n → g k < 16) {b : Nat} (hb : b < nb S) (hl : ln S b = n) : ∀ (q j k : Nat), k + j = n → j < q → F_X9_isSame_30 q 88 (nI b) (bI (allN (fun k => sg S b k == g k) k)) (nI k) (md X I A Y) = some (bI (allN (fun k => sg S b k == g k) n))
  | 0, j, k, h1, h2 => by omega
  | q + 1, 0, k, h1, h2 => by
    have hw := w.2.2.1.2 b hb
    rw [F_X9_isSame_30, md_gi14, Option.bind_some, M.1, if_pos (nI_le (by omega) (by omega)), show k = n by omega]
    exact z_b _
  | q + 1, j + 1, k, h1, h2 => by
    have hw := w.2.2.1.2 b hb
    have ih := same_30 w R M hg hb hl q j (k + 1) (by omega) (by omega)
    have e : allN (fun k => sg S b k == g k) (k + 1) = (allN (fun k => sg S b k == g k) k && (sg S b k == g k)) := rfl
    rw [F_X9_isSame_30, md_gi14, Option.bind_some, M.1, if_neg (nI_ge (by omega) (by omega))]
    cases ha : allN (fun k => sg S b k == g k) k with
    | false =>
      rw [if_pos (show bI false = 0 from rfl)]
      have : allN (fun k => sg S b k == g k) n = false := by
        cases hz : allN (fun k => sg S b k == g k) n with
        | false => rfl
        | true =>
          have := (allN_t k).mpr (fun i hi => (allN_t n).mp hz i (by omega))
          rw [ha] at this
          cases this
      rw [this]
      rfl
    | true =>
      rw [ha, Bool.true_and] at e
      have s1 := hw.2 k (by omega)
      have s2 := hg k (by omega)
      rw [if_neg (show ¬ bI true = 0 by decide), A4 w R hb (show k < ln S b by omega), Option.bind_some, md_gr13, Option.bind_some, md_il13, ix_nI (show k < 25 by omega) (by decide), Option.bind_some, Option.bind_some, M.2 k (by omega)]
      unfold F_X9_isSame_62
      rw [nI_1]
      by_cases c : sg S b k = g k
      · rw [show (sg S b k == g k) = true by simpa using c] at e
        rw [e] at ih
        rw [if_pos (by rw [c])]
        exact ih
      · rw [show (sg S b k == g k) = false by simpa using c] at e
        rw [e] at ih
        rw [if_neg (fun z => c ((nI_eq (by omega) (by omega)).mp z))]
        exact ih
theorem same_t (w : WF S) (R : RM S I A) (M : MN I A n g) (hn : 1 ≤ n ∧ n ≤ 24) (hg : ∀ k, k < n → g k < 16) {b : Nat} (hb : b < nb S) : F_X9_isSame 88 (nI b) (md X I A Y) = some (bI (sameB S n g b)) := by
  have hw := w.2.2.1.2 b hb
  have z26 : F_X9_isSame_26 88 (nI b) (md X I A Y) = some 0 := by
    unfold F_X9_isSame_26 F_X9_isSame_27
    rw [show am_F = 99999 + 1 from rfl, F_X9_isSame_30, md_gi14, Option.bind_some, M.1, if_neg (show ¬ nI n ≤ 0 from nI_nle (by omega) (by omega)), if_pos rfl]
    rfl
  unfold F_X9_isSame F_X9_isSame_b sameB
  rw [md_obj, Option.bind_some, md_gr5, Option.bind_some, A5 w R hb, Option.bind_some]
  cases ht : tn S b with
  | true => rw [if_neg (show ¬ bI true = 0 by decide), z26]; rfl
  | false =>
    rw [if_pos (show bI false = 0 from rfl), md_gr3, Option.bind_some, A3 w R hb, Option.bind_some, md_gi14, Option.bind_some, M.1]
    by_cases c : ln S b = n
    · rw [if_pos (by rw [c]), decide_eq_true c]
      have := same_30 (X := X) (Y := Y) w R M hg hb c am_F n 0 (by omega) (by show _ < 100000; omega)
      rw [show allN (fun k => sg S b k == g k) 0 = true from rfl] at this
      exact this
    · rw [if_neg (fun z => c ((nI_eq (by omega) (by omega)).mp z)), decide_eq_false c, z26]; rfl
theorem lay_2 (w : WF S) (R : RM S I A) (M : MN I A n g) (hn : 1 ≤ n ∧ n ≤ 24) (hg : ∀ k, k < n → g k < 16) : ∀ (q k b : Nat), b + k = nb S → k < q → F_X9_lay_2 q 88 (nI b) (md X I A Y) = F_X9_lay_24 88 (nI (fst2 (sameB S n g) k b)) (md X I A Y)
  | 0, k, b, h1, h2 => by omega
  | q + 1, 0, b, h1, h2 => by
    have hnb := w.2.2.1.1
    rw [F_X9_lay_2, md_gi2, Option.bind_some, R.2.2.1.1, if_pos (nI_le (by omega) (by omega))]
    rfl
  | q + 1, k + 1, b, h1, h2 => by
    have hnb := w.2.2.1.1
    have ih := lay_2 w R M hn hg q k (b + 1) (by omega) (by omega)
    have e : fst2 (sameB S n g) (k + 1) b = if sameB S n g b = true then b else fst2 (sameB S n g) k (b + 1) := rfl
    rw [F_X9_lay_2, md_gi2, Option.bind_some, R.2.2.1.1, if_neg (nI_ge (by omega) (by omega)), same_t w R M hn hg (by omega), Option.bind_some, e]
    cases hs : sameB S n g b with
    | true => rw [if_neg (show ¬ bI true = 0 by decide), if_pos (rfl : true = true)]
    | false =>
      rw [if_pos (show bI false = 0 from rfl), if_neg (show ¬ false = true by decide), nI_1]
      exact ih
theorem lay_102 {pn c x : Nat} {pf : Nat → Nat} (P : MP I A pn pf c) (hpn : pn < 9) : F_X9_lay_102 88 (nI x) (md X I A Y) = some (md X (upd I 16 (nI (pn + 1))) (upA A 15 pn (nI x)) Y) ∧ MP (upd I 16 (nI (pn + 1))) (upA A 15 pn (nI x)) (pn + 1) (updN pf pn x) c := by
  refine ⟨?_, upd_self, (upd_ne (by decide)).trans P.2.1, fun j hj => ?_⟩
  · unfold F_X9_lay_102
    rw [md_gr15, Option.bind_some, md_gi16, Option.bind_some, P.1, md_is15, ix_nI hpn (by decide), Option.bind_some, Option.bind_some, md_gi16, Option.bind_some, P.1, nI_1, md_pi16, Option.bind_some]
  · rw [upA_self]
    show (if j = pn then nI x else A 15 j) = nI (if j = pn then x else pf j)
    by_cases z : j = pn
    · rw [if_pos z, if_pos z]
    · rw [if_neg z, if_neg z]; exact P.2.2 j (by omega)
theorem lay_44 {b : Nat} (hb : b < 200) (hn : n ≤ 24) : ∀ (q j k : Nat) (A : Nat → Nat → Int32), MN I A n g → k + j = n → j < q → (∀ i, i < k → A 4 (24 * b + i) = nI (g i)) →
    ∃ A', F_X9_lay_44 q 88 (nI b) (nI k) (md X I A Y) = F_X9_lay_44 1 88 (nI b) (nI n) (md X I A' Y) ∧ (∀ i, i < n → A' 4 (24 * b + i) = nI (g i)) ∧ (∀ x, ¬ (24 * b ≤ x ∧ x < 24 * b + 24) → A' 4 x = A 4 x) ∧ ∀ q, q ≠ 4 → A' q = A q
  | 0, j, k, A, M, h1, h2, h3 => by omega
  | q + 1, 0, k, A, M, h1, h2, h3 => by
    refine ⟨A, ?_, fun i hi => h3 i (by omega), fun _ _ => rfl, fun _ _ => rfl⟩
    rw [F_X9_lay_44, F_X9_lay_44, show k = n by omega]
    rw [md_gi14, Option.bind_some, M.1, if_pos (nI_le (Nat.le_refl _) (by omega)), Option.bind_some, if_pos (nI_le (Nat.le_refl _) (by omega))]
  | q + 1, j + 1, k, A, M, h1, h2, h3 => by
    rw [F_X9_lay_44, md_gi14, Option.bind_some, M.1, if_neg (nI_ge (by omega) (by omega)), md_gr4, Option.bind_some, md_gr13, Option.bind_some, md_il13, ix_nI (show k < 25 by omega) (by decide), Option.bind_some, Option.bind_some, M.2 k (by omega), show (24 : Int32) = nI 24 from rfl, nI_mulN, nI_add, md_is4, ix_nI (show 24 * b + k < 4800 by omega) (by decide), Option.bind_some, Option.bind_some, nI_1]
    obtain ⟨A', e, g1, g2, g3⟩ := lay_44 hb hn q j (k + 1) (upA A 4 (24 * b + k) (nI (g k))) ⟨M.1, fun i hi => by rw [upA_ne (by decide)]; exact M.2 i hi⟩ (by omega) (by omega) (fun i hi => by
      rw [upA_self]
      by_cases z : i = k
      · rw [z, upd_self]
      · rw [upd_ne (by omega)]; exact h3 i (by omega))
    exact ⟨A', e, g1, fun x hx => by rw [g2 x hx, upA_self, upd_ne (by omega)], fun q hq => (g3 q hq).trans (upA_ne hq)⟩
theorem lay_t {pn c : Nat} {pf : Nat → Nat} (w : WF S) (R : RM S I A) (M : MN I A n g) (P : MP I A pn pf c) (hn : 1 ≤ n ∧ n ≤ 24) (hg : ∀ k, k < n → g k < 16) (hpn : pn < 9) (hb : nb S < 200) : ∃ I' A', F_X9_lay 88 (md X I A Y) = some (md X I' A' Y) ∧ RM (layS S n g) I' A' ∧ MN I' A' n g ∧ MP I' A' (pn + 1) (updN pf pn (lkB S n g)) (c + layN S n g) ∧ A' 13 = A 13 := by
  have hlk := lkB_le S n g
  have e0 : F_X9_lay 88 (md X I A Y) = F_X9_lay_24 88 (nI (lkB S n g)) (md X I A Y) := by
    unfold F_X9_lay F_X9_lay_b
    rw [md_obj, Option.bind_some]
    exact lay_2 w R M hn hg am_F (nb S) 0 (by omega) (by show _ < 100000; omega)
  rw [e0]
  unfold F_X9_lay_24 layS layN
  rw [md_gi2, Option.bind_some, R.2.2.1.1]
  by_cases c1 : lkB S n g < nb S
  · rw [if_neg (fun z => by have := (nI_eq (by omega) (by omega)).mp z; omega), if_pos c1, if_pos c1]
    obtain ⟨e1, P1⟩ := lay_102 (X := X) (Y := Y) (x := lkB S n g) P hpn
    exact ⟨_, _, e1, RM_IA R (fun k hk => upd_ne (by omega)) (fun q hq => upA_ne (by omega)), ⟨(upd_ne (by decide)).trans M.1, fun k hk => by rw [upA_ne (by decide)]; exact M.2 k hk⟩, P1, upA_ne (by decide)⟩
  · have elk : lkB S n g = nb S := by omega
    rw [elk, if_pos rfl, if_neg (Nat.lt_irrefl _), if_neg (Nat.lt_irrefl _), md_gr3, Option.bind_some, md_gi14, Option.bind_some, M.1, md_is3, ix_nI hb (by decide), Option.bind_some, Option.bind_some]
    obtain ⟨A1, e1, g1, g2, g3⟩ := lay_44 (X := X) (Y := Y) (I := I) (n := n) (g := g) hb hn.2 am_F n 0 (upA A 3 (nb S) (nI n)) ⟨M.1, fun k hk => by rw [upA_ne (by decide)]; exact M.2 k hk⟩ (by omega) (by show _ < 100000; omega) (fun i hi => by omega)
    have P2 : MP (upd (upd I 2 (nI (nb S + 1))) 17 (nI (c + 1))) (upA A1 5 (nb S) 0) pn pf (c + 1) := ⟨(upd_ne (by decide)).trans ((upd_ne (by decide)).trans P.1), upd_self, fun j hj => by rw [upA_ne (by decide), g3 _ (by decide), upA_ne (by decide)]; exact P.2.2 j hj⟩
    obtain ⟨e3, P3⟩ := lay_102 (X := X) (Y := Y) (x := nb S) P2 hpn
    have hA : ∀ q, q ≠ 3 → q ≠ 4 → q ≠ 5 → q ≠ 15 → upA (upA A1 5 (nb S) 0) 15 pn (nI (nb S)) q = A q := fun q h1 h2 h3 h4 => by rw [upA_ne h4, upA_ne h3, g3 q h2, upA_ne h1]
    have hI : ∀ q, q ≠ 2 → q ≠ 16 → q ≠ 17 → upd (upd (upd I 2 (nI (nb S + 1))) 17 (nI (c + 1))) 16 (nI (pn + 1)) q = I q := fun q h1 h2 h3 => by rw [upd_ne h2, upd_ne h3, upd_ne h1]
    have a3 : upA (upA A1 5 (nb S) 0) 15 pn (nI (nb S)) 3 = upd (A 3) (nb S) (nI n) := by rw [upA_ne (by decide), upA_ne (by decide), g3 3 (by decide), upA_self]
    have a4 : upA (upA A1 5 (nb S) 0) 15 pn (nI (nb S)) 4 = A1 4 := by rw [upA_ne (by decide), upA_ne (by decide)]
    have a5 : upA (upA A1 5 (nb S) 0) 15 pn (nI (nb S)) 5 = upd (A 5) (nb S) 0 := by rw [upA_ne (by decide), upA_self, g3 5 (by decide), upA_ne (by decide)]
    refine ⟨_, _, ?_, ⟨?_, ?_, ⟨?_, fun b hb' => ?_⟩, ?_⟩, ⟨(hI 14 (by decide) (by decide) (by decide)).trans M.1, fun k hk => by rw [hA 13 (by decide) (by decide) (by decide) (by decide)]; exact M.2 k hk⟩, P3, hA 13 (by decide) (by decide) (by decide) (by decide)⟩
    · refine Eq.trans e1 ?_
      rw [F_X9_lay_44, md_gi14, Option.bind_some, M.1, if_pos (nI_le (Nat.le_refl _) (by omega)), md_gr5, Option.bind_some, md_zs5, show am_z 0 = some 0 from rfl, Option.bind_some, ix_nI hb (by decide), Option.bind_some, Option.bind_some, md_gi2, Option.bind_some, R.2.2.1.1, nI_1, md_pi2, Option.bind_some, md_gi17, Option.bind_some, show upd I 2 (nI (nb S + 1)) 17 = nI c from (upd_ne (by decide)).trans P.2.1, nI_1, md_pi17, Option.bind_some]
      exact e3
    · refine ⟨(hI 0 (by decide) (by decide) (by decide)).trans R.1.1, fun j hj => ?_⟩
      rw [hA 1 (by decide) (by decide) (by decide) (by decide)]
      exact R.1.2 j hj
    · refine ⟨(hI 39 (by decide) (by decide) (by decide)).trans R.2.1.1, fun j hj => ?_⟩
      rw [hA 40 (by decide) (by decide) (by decide) (by decide)]
      exact R.2.1.2 j hj
    · show upd (upd (upd I 2 _) 17 _) 16 _ 2 = nI (nb S + 1)
      rw [upd_ne (by decide), upd_ne (by decide), upd_self]
    · have hb' : b < nb S + 1 := hb'
      rw [a3, a4, a5]
      by_cases z : b = nb S
      · rw [z, upd_self, upd_self, S_b_new.1, S_b_new.2.1, S_b_new.2.2]
        exact ⟨rfl, g1, rfl⟩
      · obtain ⟨r1, r2, r3⟩ := R.2.2.1.2 b (by omega)
        have hl := (w.2.2.1.2 b (by omega)).1
        rw [upd_ne z, upd_ne z, (S_b_ln (by omega)).1, (S_b_ln (by omega)).2.1, (S_b_ln (by omega)).2.2.1]
        exact ⟨r1, fun k hk => by rw [g2 _ (by omega), upA_ne (by decide)]; exact r2 k hk, r3⟩
    · refine ⟨(hI 6 (by decide) (by decide) (by decide)).trans R.2.2.2.1, fun v hv => ?_⟩
      rw [hA 7 (by decide) (by decide) (by decide) (by decide), hA 8 (by decide) (by decide) (by decide) (by decide), hA 9 (by decide) (by decide) (by decide) (by decide), hA 10 (by decide) (by decide) (by decide) (by decide), hA 11 (by decide) (by decide) (by decide) (by decide), hA 12 (by decide) (by decide) (by decide) (by decide)]
      exact R.2.2.2.2 v hv
end LM
