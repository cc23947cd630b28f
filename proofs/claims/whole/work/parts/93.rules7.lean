section UM3
variable {X : Fin 87 → am_C} {Y : am_H}
theorem bin_2 {rule to n : Nat} {p : Nat × Nat} {I : Nat → Int32} (hr : rule < n) (ht : to < n) (hne : to ≠ rule) (hn : n ≤ 23) (hp : p.1 < 1000 ∧ p.2 < 1000 ∧ p.2 ≠ 16 + rule) : ∀ (q : Nat) (l1 l2 : List Nat) (A : Nat → Nat → Int32) (R : Nat → List Nat), RulM A n R → R rule = [p.1, p.2] → R to = l1 ++ l2 → (∀ j, j < n → (R j).length ≤ 24) → (∀ x ∈ l2, x < 1000) → (exL rule p l2).length < q → l1.length + (exL rule p l2).length ≤ 24 →
    ∃ A', F_X9_putBackIn_2 q 88 (nI to) (nI rule) (nI l1.length) (md X I A Y) = some (md X I A' Y) ∧ RulM A' n (fun j => if j = to then l1 ++ exL rule p l2 else R j) ∧ ∀ q, q ≠ 26 → q ≠ 27 → A' q = A q
  | 0, l1, l2, A, R, M, hR, hT, hle, hl, h2, h3 => by omega
  | q + 1, l1, [], A, R, M, hR, hT, hle, hl, h2, h3 => by
    have hL : (R to).length = l1.length := by rw [hT]; simp
    rw [F_X9_putBackIn_2, md_gr26, Option.bind_some, md_il26, ix_nI (show to < 24 by omega) (by decide), Option.bind_some, Option.bind_some, (M to ht).1, if_pos (nI_le (by omega) (by have := hle to ht; omega))]
    refine ⟨A, rfl, fun k hk => ?_, fun _ _ _ => rfl⟩
    show A 26 k = nI (if k = to then l1 ++ exL rule p [] else R k).length ∧ ∀ j, j < (if k = to then l1 ++ exL rule p [] else R k).length → A 27 (24 * k + j) = nI (gD (if k = to then l1 ++ exL rule p [] else R k) j)
    by_cases z : k = to
    · rw [if_pos z, show exL rule p [] = [] from rfl, ← hT, z]; exact M to ht
    · rw [if_neg z]; exact M k hk
  | q + 1, l1, x :: t, A, R, M, hR, hT, hle, hl, h2, h3 => by
    have hL : (R to).length = l1.length + (t.length + 1) := by rw [hT]; simp
    have hx : x < 1000 := hl x List.mem_cons_self
    have hel := ex_len (k := rule) (q := p) t
    have hL24 := hle to ht
    have e27 : A 27 (24 * to + l1.length) = nI x := by rw [(M to ht).2 _ (by omega), hT, gD_at]
    rw [ex_cons] at h2 h3 ⊢
    rw [F_X9_putBackIn_2, md_gr26, Option.bind_some, md_il26, ix_nI (show to < 24 by omega) (by decide), Option.bind_some, Option.bind_some, (M to ht).1, if_neg (nI_ge (by omega) (by omega)), md_gr27, Option.bind_some, show (24 : Int32) = nI 24 from rfl, nI_mulN, nI_add, md_il27, ix_nI (show 24 * to + l1.length < 576 by omega) (by decide), Option.bind_some, Option.bind_some, e27, show (16 : Int32) = nI 16 from rfl, nI_add]
    by_cases c : x = 16 + rule
    · rw [if_pos c] at h2 h3 ⊢
      have h2' : (exL rule p t).length + 1 + 1 < q + 1 := h2
      have h3' : l1.length + ((exL rule p t).length + 1 + 1) ≤ 24 := h3
      obtain ⟨m26, m27⟩ := M rule hr
      rw [hR] at m26 m27
      have a0 : A 27 (24 * rule) = nI p.1 := m27 0 (by show 0 < 2; omega)
      have a1 : A 27 (24 * rule + 1) = nI p.2 := m27 1 (by show 1 < 2; omega)
      obtain ⟨A1, e1, g1, g2⟩ := bin_50 (X := X) (Y := Y) (K := F_X9_putBackIn_2 q) (I := I) (to := to) (rule := rule) (k := l1.length) (by omega) am_F t.length A (by omega) (by show _ < 100000; omega)
      have far : ∀ i, ¬ (24 * to ≤ i ∧ i < 24 * to + 24) → A1 27 i = A 27 i := fun i hi => by rw [g1, if_neg (by omega)]
      have e2 := bin_92 (X := X) (Y := Y) (K := F_X9_putBackIn_2 q) (I := I) (A := A1) (to := to) (rule := rule) (k := l1.length) (L := (R to).length) (p := p) (by rw [g2 _ (by decide)]; exact (M to ht).1) (by omega) hne (by omega) (by omega) (by rw [far _ (by omega)]; exact a0) (by rw [far _ (by omega)]; exact a1)
      have M' : RulM (upA (upA (upA A1 27 (24 * to + l1.length) (nI p.1)) 27 (24 * to + l1.length + 1) (nI p.2)) 26 to (nI ((R to).length + 1))) n (fun j => if j = to then (l1 ++ [p.1]) ++ (p.2 :: t) else R j) := by
        intro k hk
        show _ = nI (if k = to then (l1 ++ [p.1]) ++ (p.2 :: t) else R k).length ∧ ∀ j, j < (if k = to then (l1 ++ [p.1]) ++ (p.2 :: t) else R k).length → _ = nI (gD (if k = to then (l1 ++ [p.1]) ++ (p.2 :: t) else R k) j)
        rw [upA_self, upA_ne (show (27 : Nat) ≠ 26 by decide), upA_self, upA_self]
        by_cases z : k = to
        · rw [if_pos z, z, upd_self]
          refine ⟨by congr 1; simp; omega, fun j hj => ?_⟩
          have hj : j < l1.length + 1 + (t.length + 1) := by
            have h9 : j < l1.length + (t.length + 1 + 1) := by simpa using hj
            omega
          rcases Nat.lt_trichotomy j l1.length with z | z | z
          · rw [upd_ne (by omega), upd_ne (by omega), g1, if_neg (by omega), (M to ht).2 j (by omega), hT, gD_app1 z, gD_app1 (by simp; omega), gD_app1 z]
          · rw [upd_ne (by omega), z, upd_self, gD_app1 (by simp), gD_at]
          · by_cases z2 : j = l1.length + 1
            · rw [z2, show 24 * to + (l1.length + 1) = 24 * to + l1.length + 1 by omega, upd_self, show l1.length + 1 = (l1 ++ [p.1]).length by simp, gD_at]
            · rw [upd_ne (by omega), upd_ne (by omega), g1, if_pos (by omega)]
              obtain ⟨u, rfl⟩ : ∃ u, j = l1.length + 2 + u := ⟨j - (l1.length + 2), by omega⟩
              have q1 : gD (l1 ++ x :: t) (l1.length + (u + 1)) = gD (x :: t) (u + 1) := gD_app2
              have q2 : gD (l1 ++ [p.1] ++ p.2 :: t) ((l1 ++ [p.1]).length + (u + 1)) = gD (p.2 :: t) (u + 1) := gD_app2
              rw [show 24 * to + (l1.length + 2 + u) - 1 = 24 * to + (l1.length + (u + 1)) by omega, (M to ht).2 _ (by omega), hT, q1, show l1.length + 2 + u = (l1 ++ [p.1]).length + (u + 1) by simp; omega, q2]
              rfl
        · obtain ⟨k1, k2⟩ := M k hk
          have := hle k hk
          rw [if_neg z, upd_ne z, upA_ne (by decide), upA_ne (by decide), g2 26 (by decide)]
          exact ⟨k1, fun j hj => by rw [upd_ne (by omega), upd_ne (by omega), far _ (by omega)]; exact k2 j hj⟩
      have e9 : exL rule p (p.2 :: t) = p.2 :: exL rule p t := by rw [ex_cons, if_neg hp.2.2]
      obtain ⟨A', e, M2, ch2⟩ := bin_2 (I := I) hr ht hne hn hp q (l1 ++ [p.1]) (p.2 :: t) _ _ M' (by show (if rule = to then _ else R rule) = _; rw [if_neg (fun z => hne z.symm)]; exact hR) (by show (if to = to then _ else _) = _; rw [if_pos rfl]) (fun j hj => by
        show (if j = to then (l1 ++ [p.1]) ++ (p.2 :: t) else R j).length ≤ 24
        by_cases z : j = to
        · rw [if_pos z]; simp; omega
        · rw [if_neg z]; exact hle j hj) (fun y hy => by
        rcases List.mem_cons.mp hy with z | z
        · rw [z]; exact hp.2.1
        · exact hl y (List.mem_cons_of_mem _ z)) (by rw [e9]; show (exL rule p t).length + 1 < q; omega) (by rw [e9]; simp; omega)
      refine ⟨A', ?_, fun k hk => ?_, fun q h1 h2 => by rw [ch2 q h1 h2, upA_ne h1, upA_ne h2, upA_ne h2, g2 q h2]⟩
      · rw [if_pos (by rw [c]), Option.bind_some, md_il26, ix_nI (show rule < 24 by omega) (by decide), Option.bind_some, Option.bind_some, m26, Option.bind_some, md_il26, ix_nI (show to < 24 by omega) (by decide), Option.bind_some, Option.bind_some, (M to ht).1, show nI [p.1, p.2].length - 1 = nI 1 from pre_nI 1, hL, show l1.length + (t.length + 1) = l1.length + t.length + 1 by omega, pre_nI]
        refine e1.trans (e2.trans ?_)
        rw [show nI (l1.length + 1) = nI (l1 ++ [p.1]).length by simp]
        exact e
      · have := M2 k hk
        rw [e9] at this
        show A' 26 k = nI (if k = to then l1 ++ p.1 :: p.2 :: exL rule p t else R k).length ∧ ∀ j, j < (if k = to then l1 ++ p.1 :: p.2 :: exL rule p t else R k).length → A' 27 (24 * k + j) = nI (gD (if k = to then l1 ++ p.1 :: p.2 :: exL rule p t else R k) j)
        have this : A' 26 k = nI (if k = to then (l1 ++ [p.1]) ++ (p.2 :: exL rule p t) else if k = to then _ else R k).length ∧ ∀ j, j < (if k = to then (l1 ++ [p.1]) ++ (p.2 :: exL rule p t) else if k = to then _ else R k).length → A' 27 (24 * k + j) = nI (gD (if k = to then (l1 ++ [p.1]) ++ (p.2 :: exL rule p t) else if k = to then _ else R k) j) := this
        by_cases z : k = to
        · rw [if_pos z, List.append_assoc] at this
          rw [if_pos z]
          exact this
        · rw [if_neg z, if_neg z] at this
          rw [if_neg z]
          exact this
    · rw [if_neg c] at h2 h3 ⊢
      have h2' : (exL rule p t).length + 1 < q + 1 := h2
      have h3' : l1.length + ((exL rule p t).length + 1) ≤ 24 := h3
      obtain ⟨A', e, M2, ch2⟩ := bin_2 (I := I) hr ht hne hn hp q (l1 ++ [x]) t A R M hR (by rw [List.append_assoc]; exact hT) hle (fun y hy => hl y (List.mem_cons_of_mem _ hy)) (by omega) (by simp; omega)
      rw [List.append_assoc] at M2
      refine ⟨A', ?_, M2, ch2⟩
      rw [if_neg (fun z => c ((nI_eq (by omega) (by omega)).mp z))]
      unfold F_X9_putBackIn_142
      rw [nI_1, show nI (l1.length + 1) = nI (l1 ++ [x]).length by simp]
      exact e
theorem rul_185 {K : Nat → Int32 → am_H → Option am_H} {rule n : Nat} {p : Nat × Nat} {I : Nat → Int32} (hI : I 25 = nI n) (hr : rule < n) (hn : n ≤ 23) (hp : p.1 < 1000 ∧ p.2 < 1000 ∧ p.2 ≠ 16 + rule) : ∀ (q m j : Nat) (A : Nat → Nat → Int32) (R : Nat → List Nat), RulM A n R → R rule = [p.1, p.2] → j + m = n → m < q → (∀ i, i < n → (∀ x ∈ R i, x < 1000) ∧ (R i).length ≤ 24) → (∀ i, j ≤ i → i < n → (exL rule p (R i)).length ≤ 24) →
    ∃ A', F_X9_findRules_185 K q 88 (nI rule) (nI j) (md X I A Y) = K 88 (nI rule - 1) (md X I A' Y) ∧ RulM A' n (fun i => if i = rule then [] else if j ≤ i then exL rule p (R i) else R i) ∧ ∀ q, q ≠ 26 → q ≠ 27 → A' q = A q
  | 0, m, j, A, R, M, hR, h1, h2, h3, h4 => by omega
  | q + 1, 0, j, A, R, M, hR, h1, h2, h3, h4 => by
    rw [F_X9_findRules_185, md_gi25, Option.bind_some, hI, if_pos (nI_le (by omega) (by omega)), md_gr26, Option.bind_some, md_is26, ix_nI (show rule < 24 by omega) (by decide), Option.bind_some, Option.bind_some]
    unfold F_X9_findRules_220
    rw [dn_nI]
    refine ⟨_, rfl, fun k hk => ?_, fun q h1 h2 => upA_ne h1⟩
    show upA A 26 rule 0 26 k = nI (if k = rule then [] else if j ≤ k then exL rule p (R k) else R k).length ∧ ∀ i, i < (if k = rule then [] else if j ≤ k then exL rule p (R k) else R k).length → upA A 26 rule 0 27 (24 * k + i) = nI (gD (if k = rule then [] else if j ≤ k then exL rule p (R k) else R k) i)
    rw [upA_self, upA_ne (by decide)]
    by_cases z : k = rule
    · rw [if_pos z, z, upd_self]
      exact ⟨rfl, fun i hi => by cases hi⟩
    · rw [if_neg z, if_neg (show ¬ j ≤ k by omega), upd_ne z]
      exact M k hk
  | q + 1, m + 1, j, A, R, M, hR, h1, h2, h3, h4 => by
    rw [F_X9_findRules_185, md_gi25, Option.bind_some, hI, if_neg (nI_ge (by omega) (by omega))]
    unfold F_X9_findRules_207
    rw [nI_1]
    by_cases c : j = rule
    · rw [if_pos (by rw [c])]
      obtain ⟨A', e, M', g⟩ := rul_185 (K := K) hI hr hn hp q m (j + 1) A R M hR (by omega) (by omega) h3 (fun i h5 h6 => h4 i (by omega) h6)
      refine ⟨A', e, fun k hk => ?_, g⟩
      have := M' k hk
      have e9 : (if k = rule then [] else if j ≤ k then exL rule p (R k) else R k) = (if k = rule then [] else if j + 1 ≤ k then exL rule p (R k) else R k) := by
        by_cases z : k = rule
        · rw [if_pos z, if_pos z]
        · rw [if_neg z, if_neg z]
          by_cases z2 : j ≤ k
          · rw [if_pos z2, if_pos (by omega)]
          · rw [if_neg z2, if_neg (by omega)]
      show A' 26 k = nI (if k = rule then [] else if j ≤ k then exL rule p (R k) else R k).length ∧ ∀ i, i < (if k = rule then [] else if j ≤ k then exL rule p (R k) else R k).length → A' 27 (24 * k + i) = nI (gD (if k = rule then [] else if j ≤ k then exL rule p (R k) else R k) i)
      rw [e9]
      exact this
    · have h4j := h4 j (by omega) (by omega)
      obtain ⟨A1, e1, M1, g1⟩ := bin_2 (X := X) (Y := Y) (I := I) (to := j) hr (by omega) c hn hp am_F [] (R j) A R M hR rfl (fun i hi => (h3 i hi).2) (h3 j (by omega)).1 (by show _ < 100000; omega) (by show 0 + _ ≤ 24; omega)
      have hpm : p.1 < 1000 ∧ p.2 < 1000 := ⟨hp.1, hp.2.1⟩
      obtain ⟨A', e, M', g⟩ := rul_185 (K := K) hI hr hn hp q m (j + 1) A1 (fun i => if i = j then [] ++ exL rule p (R j) else R i) M1 (by show (if rule = j then _ else R rule) = _; rw [if_neg (fun z => c z.symm)]; exact hR) (by omega) (by omega) (fun i hi => by
        show (∀ x ∈ (if i = j then [] ++ exL rule p (R j) else R i), x < 1000) ∧ (if i = j then [] ++ exL rule p (R j) else R i).length ≤ 24
        by_cases z : i = j
        · rw [if_pos z]
          refine ⟨fun x hx => ?_, h4j⟩
          rcases ex_mem _ x hx with y | y | y
          · omega
          · omega
          · exact (h3 j (by omega)).1 x y
        · rw [if_neg z]; exact h3 i hi) (fun i h5 h6 => by
        show (exL rule p (if i = j then [] ++ exL rule p (R j) else R i)).length ≤ 24
        rw [if_neg (by omega)]
        exact h4 i (by omega) h6)
      refine ⟨A', ?_, fun k hk => ?_, fun q h1 h2 => (g q h1 h2).trans (g1 q h1 h2)⟩
      · rw [if_neg (fun z => c ((nI_eq (by omega) (by omega)).mp z))]
        unfold F_X9_putBackIn F_X9_putBackIn_b
        rw [md_obj, Option.bind_some, show (0 : Int32) = nI [].length from rfl, e1, Option.bind_some]
        exact e
      · have := M' k hk
        have e9 : (if k = rule then [] else if j ≤ k then exL rule p (R k) else R k) = (if k = rule then [] else if j + 1 ≤ k then exL rule p (if k = j then [] ++ exL rule p (R j) else R k) else (if k = j then [] ++ exL rule p (R j) else R k)) := by
          by_cases z : k = rule
          · rw [if_pos z, if_pos z]
          · rw [if_neg z, if_neg z]
            by_cases z2 : k = j
            · rw [if_pos (show j ≤ k by omega), if_neg (show ¬ j + 1 ≤ k by omega), if_pos z2, z2]; rfl
            · rw [if_neg z2]
              by_cases z3 : j ≤ k
              · rw [if_pos z3, if_pos (by omega)]
              · rw [if_neg z3, if_neg (by omega)]
        show A' 26 k = nI (if k = rule then [] else if j ≤ k then exL rule p (R k) else R k).length ∧ ∀ i, i < (if k = rule then [] else if j ≤ k then exL rule p (R k) else R k).length → A' 27 (24 * k + i) = nI (gD (if k = rule then [] else if j ≤ k then exL rule p (R k) else R k) i)
        rw [e9]
        exact this
/-! the reference cleans -/
theorem RulM.cong {A : Nat → Nat → Int32} {n : Nat} {R R' : Nat → List Nat} (M : RulM A n R) (h : ∀ j, j < n → R j = R' j) : RulM A n R' := fun k hk => by rw [← h k hk]; exact M k hk
theorem mclean_loop {N n : Nat} {P : sP} (hn : n ≤ 12) (hN : N ≤ 24) (hP : PO N n P) : ∀ (q k : Nat) (s : sC) (I : Nat → Int32) (A : Nat → Nat → Int32), MU I A s.1 n s.2 → CI N n P k s → k ≤ n → k < q →
    ∃ I' A', F_X9_findRules_164 q 88 (nI k - 1) (md X I A Y) = some (md X I' A' Y) ∧ MU I' A' (cln P n k s).1 n (cln P n k s).2 ∧ ChU I I' A A'
  | 0, k, s, I, A, M, C, hk, h2 => by omega
  | q + 1, 0, s, I, A, M, C, hk, h2 => by
    rw [F_X9_findRules_164, if_pos m1_lt]
    exact ⟨I, A, rfl, M, ChU.rf⟩
  | q + 1, k + 1, s, I, A, M, C, hk, h2 => by
    obtain ⟨C1, C2⟩ := CI_step hP (by omega) C
    have hl1 : ∀ x ∈ s.1, x < 1000 := fun x hx => by have := C.1.1 x hx; omega
    have hR1 : ∀ j, j < n → (∀ x ∈ s.2 j, x < 1000) ∧ (s.2 j).length ≤ 24 := fun j hj => ⟨fun x hx => by have := (C.2.1 j hj).1 x hx; omega, by have := (CI_len C).2 j hj; omega⟩
    have hle := (CI_len C).1
    have hst : stN n k s.1 s.2 ≤ 24 + 12 * 24 := by
      unfold stN
      have a1 : cnL (16 + k) s.1 ≤ 24 := Nat.le_trans (cntN_le _ _) (Nat.le_trans (CI_len C).1 hN)
      have a2 := sumN_le (f := fun j => cnL (16 + k) (s.2 j)) (c := 24) n (fun i hi => Nat.le_trans (cntN_le _ _) (Nat.le_trans ((CI_len C).2 i hi) hN))
      omega
    have hcl : cln P n (k + 1) s = if stN n k s.1 s.2 < 2 then cln P n k (exL k (P k) s.1, fun j => if j = k then [] else exL k (P k) (s.2 j)) else cln P n k s := rfl
    rw [F_X9_findRules_164, pre_nI, if_neg (nI_pos (by omega)), mstand_t M (by omega) (by omega) hl1 (by omega) hR1, Option.bind_some]
    by_cases c : stN n k s.1 s.2 < 2
    · rw [if_pos c] at hcl
      obtain ⟨p1, p2, p3⟩ := hP k (by omega)
      have hp : (P k).1 < 1000 ∧ (P k).2 < 1000 ∧ (P k).2 ≠ 16 + k := ⟨by omega, by omega, by omega⟩
      have hRk : s.2 k = [(P k).1, (P k).2] := C.2.2 k (by omega)
      have hxl : (exL k (P k) s.1).length ≤ N := (CI_len C2).1
      obtain ⟨I1, A1, e1, M1, c1⟩ := back_2 (X := X) (Y := Y) (p := P k) (R := s.2) (show k < n by omega) (by omega) hRk hp am_F [] s.1 I A M hl1 (by show _ < 100000; omega) (by show 0 + _ ≤ 24; omega)
      obtain ⟨A2, e2, M2, c2⟩ := rul_185 (X := X) (Y := Y) (K := F_X9_findRules_164 q) (p := P k) (I := I1) M1.2.1 (show k < n by omega) (by omega) hp am_F n 0 A1 s.2 M1.2.2 hRk (by omega) (by show _ < 100000; omega) hR1 (fun i _ hi => by
        by_cases z : i = k
        · rw [z, hRk, ex_id]
          · show 2 ≤ 24; omega
          · intro x hx
            rcases List.mem_cons.mp hx with y | y
            · omega
            · rcases List.mem_cons.mp y with y | y
              · omega
              · cases y
        · have := (CI_len C2).2 i hi
          have e9 : (fun j => if j = k then [] else exL k (P k) (s.2 j)) i = exL k (P k) (s.2 i) := if_neg z
          have this : ((fun j => if j = k then [] else exL k (P k) (s.2 j)) i).length ≤ N := this
          rw [e9] at this
          omega)
      have M3 : MU I1 A2 (exL k (P k) s.1) n (fun j => if j = k then [] else exL k (P k) (s.2 j)) := ⟨⟨M1.1.1, fun j hj => by rw [c2 _ (by decide) (by decide)]; exact M1.1.2 j hj⟩, M1.2.1, M2.cong (fun j hj => by rw [if_pos (Nat.zero_le j)])⟩
      obtain ⟨I', A', e, M', c'⟩ := mclean_loop hn hN hP q k (exL k (P k) s.1, fun j => if j = k then [] else exL k (P k) (s.2 j)) I1 A2 M3 C2 (by omega) (by omega)
      refine ⟨I', A', ?_, by rw [hcl]; exact M', (c1.tr ⟨fun _ _ _ => rfl, fun k h1 h2 h3 => c2 k h2 h3⟩).tr c'⟩
      rw [if_neg (show ¬ (2 : Int32) ≤ nI (stN n k s.1 s.2) from nI_ge (b := 2) c (by decide))]
      unfold F_X9_putBackInRow F_X9_putBackInRow_b
      rw [md_obj, Option.bind_some, show (0 : Int32) = nI [].length from rfl, e1, Option.bind_some]
      exact e2.trans e
    · rw [if_neg c] at hcl
      obtain ⟨I', A', e, M', c'⟩ := mclean_loop hn hN hP q k s I A M C1 (by omega) (by omega)
      refine ⟨I', A', ?_, by rw [hcl]; exact M', c'⟩
      rw [if_pos (show (2 : Int32) ≤ nI (stN n k s.1 s.2) from nI_le (a := 2) (by omega) (by omega))]
      unfold F_X9_findRules_220
      rw [dn_nI]
      exact e
/-! the reference's rules grow -/
theorem mgrow_loop {N : Nat} (hN : N ≤ 24) : ∀ (f q n : Nat) (l : List Nat) (P : sP) (I : Nat → Int32) (A : Nat → Nat → Int32) (R : Nat → List Nat), MU I A l n R → GI N n l P → (n = 0 ∨ 2 ≤ l.length) → (∀ j, j < n → R j = [(P j).1, (P j).2]) → n + f = 12 → f + 1 < q →
    ∃ I' A', F_X9_findRules_45 q 88 1 (md X I A Y) = F_X9_findRules_164 am_F 88 (nI (grw f n l P).1 - 1) (md X I' A' Y) ∧ MU I' A' (grw f n l P).2.1 (grw f n l P).1 (fun j => [((grw f n l P).2.2 j).1, ((grw f n l P).2.2 j).2]) ∧ ChU I I' A A'
  | 0, q, n, l, P, I, A, R, M, G, h0, hR, h1, h2 => by
    have := G.2.2.1
    omega
  | f + 1, 0, n, l, P, I, A, R, M, G, h0, hR, h1, h2 => by omega
  | f + 1, q + 1, n, l, P, I, A, R, M, G, h0, hR, h1, h2 => by
    have hn := G.2.2.1
    have hl : ∀ x ∈ l, x < 1000 := fun x hx => by have := G.1 x hx; omega
    have hg : grw (f + 1) n l P = if (bp l n).1 ≤ 1 then (n, l, P) else grw f (n + 1) (jnL (bp l n).2.1 (bp l n).2.2 (16 + n) l) (updP P n (bp l n).2) := rfl
    rw [F_X9_findRules_45, if_neg i1ne0]
    have sk := seek_57 (X := X) (Y := Y) (K45 := F_X9_findRules_45 q) M.1.1 M.1.2 M.2.1 (by omega) hl (show n < 100 by omega) am_F (16 + n) 0 (by omega) (by show _ < 100000; omega)
    have sk' : F_X9_findRules_57 (F_X9_findRules_45 q) am_F 88 1 (-1) 0 (md X I A Y) = F_X9_findRules_135 (F_X9_findRules_45 q) 88 (beI (bp l n)) (bI (decide (1 < (bp l n).1))) (md X I A Y) := sk
    rw [sk']
    unfold F_X9_findRules_135 F_X9_findRules_154
    by_cases c : (bp l n).1 ≤ 1
    · rw [if_pos c] at hg
      rw [hg, decide_eq_false (by omega), if_pos (show bI false = 0 from rfl)]
      obtain ⟨q', rfl⟩ : ∃ q', q = q' + 1 := ⟨q - 1, by omega⟩
      refine ⟨I, A, ?_, ⟨M.1, M.2.1, M.2.2.cong hR⟩, ChU.rf⟩
      rw [F_X9_findRules_45, if_pos (show bI false = 0 from rfl), md_gi25, Option.bind_some, M.2.1]
    · rw [if_neg c] at hg
      rw [hg]
      obtain ⟨b1, b2, b3⟩ := bp_grow G c
      obtain ⟨G', h0'⟩ := GI_step G b1 b2 b3
      obtain ⟨I1, A1, e1, M1, c1⟩ := growRule_t (X := X) (Y := Y) (a := (bp l n).2.1) (b := (bp l n).2.2) M (by omega) hl (by omega) (fun j hj => by rw [hR j hj]; show 2 ≤ 24; omega) (by omega) (by omega)
      obtain ⟨I', A', e, M', c'⟩ := mgrow_loop hN f q (n + 1) _ (updP P n (bp l n).2) I1 A1 _ M1 G' (Or.inr h0') (fun j hj => by
        show (if j = n then [(bp l n).2.1, (bp l n).2.2] else R j) = _
        by_cases z : j = n
        · rw [if_pos z, z, updP_self]
        · rw [if_neg z, updP_ne z]; exact hR j (by omega)) (by omega) (by omega)
      refine ⟨I', A', ?_, M', c1.tr c'⟩
      have hd : beI (bp l n) = nI (64 * (bp l n).2.1 + (bp l n).2.2) := if_neg c
      rw [decide_eq_true (show 1 < (bp l n).1 by omega), if_neg (show ¬ bI true = 0 by decide), hd, show (64 : Int32) = nI 64 from rfl, mod_nI (by omega) (by omega) (by omega), nI_div (by omega) (by omega), show (64 * (bp l n).2.1 + (bp l n).2.2) / 64 = (bp l n).2.1 by omega, show (64 * (bp l n).2.1 + (bp l n).2.2) % 64 = (bp l n).2.2 by omega, e1, Option.bind_some]
      exact e
variable {S : sS}
theorem rcopy_loop (w : WF S) {b : Nat} {I : Nat → Int32} (hb : b < nb S) (hI : I 24 = nI (ln S b)) : ∀ (q k i : Nat) (A : Nat → Nat → Int32), RM S I A → i + k = ln S b → k < q → (∀ j, j < i → A 23 j = nI (sg S b j)) →
    ∃ A', F_X9_findRules_17 q 88 (nI b) (nI i) (md X I A Y) = F_X9_findRules_45 am_F 88 1 (md X I A' Y) ∧ (∀ j, j < ln S b → A' 23 j = nI (sg S b j)) ∧ ∀ q, q ≠ 23 → A' q = A q
  | 0, k, i, A, R, h1, h2, h3 => by omega
  | q + 1, 0, i, A, R, h1, h2, h3 => by
    have hl := w.2.2.1.2 b hb
    rw [F_X9_findRules_17, md_gi24, Option.bind_some, hI, if_pos (nI_le (by omega) (by omega))]
    exact ⟨A, rfl, fun j hj => h3 j (by omega), fun _ _ => rfl⟩
  | q + 1, k + 1, i, A, R, h1, h2, h3 => by
    have hl := w.2.2.1.2 b hb
    rw [F_X9_findRules_17, md_gi24, Option.bind_some, hI, if_neg (nI_ge (by omega) (by omega)), md_gr23, Option.bind_some, A4 w R hb (show i < ln S b by omega), Option.bind_some, md_is23, ix_nI (show i < 24 by omega) (by decide), Option.bind_some, Option.bind_some, nI_1]
    have ch : ChU I I A (upA A 23 i (nI (sg S b i))) := ⟨fun _ _ _ => rfl, fun k h1 _ _ => upA_ne h1⟩
    obtain ⟨A', e, g1, g2⟩ := rcopy_loop w hb hI q k (i + 1) _ (ch.rm R) (by omega) (by omega) (fun j hj => by
      rw [upA_self]
      by_cases z : j = i
      · rw [z, upd_self]
      · rw [upd_ne z]; exact h3 j (by omega))
    exact ⟨A', e, g1, fun q hq => (g2 q hq).trans (upA_ne hq)⟩
theorem findRules_t (w : WF S) {b : Nat} {I : Nat → Int32} {A : Nat → Nat → Int32} (R : RM S I A) (hb : b < nb S) : ∃ I' A', F_X9_findRules 88 (nI b) (md X I A Y) = some (md X I' A' Y) ∧ MU I' A' (ruC (sg S b) (ln S b)).1 (gW (sg S b) (ln S b)).1 (ruC (sg S b) (ln S b)).2 ∧ ChU I I' A A' := by
  have hl := w.2.2.1.2 b hb
  have c0 : ChU I (upd (upd I 24 (nI (ln S b))) 25 (nI 0)) A A := ⟨fun k h1 h2 => (upd_ne h2).trans (upd_ne h1), fun _ _ _ _ => rfl⟩
  obtain ⟨A1, e1, g1, g2⟩ := rcopy_loop (X := X) (Y := Y) w hb (I := upd (upd I 24 (nI (ln S b))) 25 (nI 0)) ((upd_ne (by decide)).trans upd_self) am_F (ln S b) 0 A (c0.rm R) (by omega) (by show _ < 100000; omega) (fun j hj => by omega)
  have M1 : MU (upd (upd I 24 (nI (ln S b))) 25 (nI 0)) A1 (sL (sg S b) (ln S b)) 0 (fun _ => []) := ⟨⟨by rw [sL_len]; exact (upd_ne (by decide)).trans upd_self, fun j hj => by rw [sL_len] at hj; rw [g1 j hj, sL_at hj]⟩, upd_self, fun k hk => by omega⟩
  obtain ⟨I2, A2, e2, M2, c2⟩ := mgrow_loop (X := X) (Y := Y) hl.1.2 12 am_F 0 _ (fun _ => (0, 0)) _ A1 _ M1 (GI_0 hl.2) (Or.inl rfl) (fun j hj => by omega) (by omega) (by show _ < 100000; omega)
  obtain ⟨G, hn⟩ := gW_ok hl.2 hl.1.2
  obtain ⟨C, hP⟩ := GI_CI G
  obtain ⟨I', A', e, M', c'⟩ := mclean_loop (X := X) (Y := Y) (show (gW (sg S b) (ln S b)).1 ≤ 12 by omega) hl.1.2 hP am_F _ ((gW (sg S b) (ln S b)).2.1, fun j => [((gW (sg S b) (ln S b)).2.2 j).1, ((gW (sg S b) (ln S b)).2.2 j).2]) I2 A2 M2 C (Nat.le_refl _) (by show _ < 100000; omega)
  refine ⟨I', A', ?_, M', (c0.tr ⟨fun _ _ _ => rfl, fun k h1 _ _ => g2 k h1⟩).tr (c2.tr c')⟩
  unfold F_X9_findRules F_X9_findRules_b
  rw [md_obj, Option.bind_some, md_gr3, Option.bind_some, A3 w R hb, Option.bind_some, md_pi24, Option.bind_some, show (0 : Int32) = nI 0 from rfl, md_pi25, Option.bind_some]
  exact e1.trans (e2.trans e)
end UM3
