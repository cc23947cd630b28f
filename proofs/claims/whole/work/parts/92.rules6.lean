/-! RULES: the reference cleans -/
section UM2
variable {X : Fin 87 → am_C} {Y : am_H}
theorem mst_55 {K : Nat → Int32 → Int32 → Int32 → am_H → Option Int32} {I : Nat → Int32} {A : Nat → Nat → Int32} {n r k : Nat} {R : Nat → List Nat} (M : RulM A n R) (hr : r < n) (hn : n ≤ 23) (hk : k < 100) (hR : ∀ x ∈ R r, x < 1000) (hle : (R r).length ≤ 24) : ∀ (q m j c : Nat), j + m = (R r).length → m < q → F_X9_standing_55 K q 88 (nI k) (nI (c + cntN (fun j => gD (R r) j == 16 + k) j)) (nI r) (nI j) (md X I A Y) = K 88 (nI k) (nI (c + cnL (16 + k) (R r))) (nI (r + 1)) (md X I A Y)
  | 0, m, j, c, h1, h2 => by omega
  | q + 1, 0, j, c, h1, h2 => by
    rw [F_X9_standing_55, md_gr26, Option.bind_some, md_il26, ix_nI (show r < 24 by omega) (by decide), Option.bind_some, Option.bind_some, (M r hr).1, if_pos (nI_le (by omega) (by omega)), nI_1, show j = (R r).length by omega]
    rfl
  | q + 1, m + 1, j, c, h1, h2 => by
    have ih := mst_55 (K := K) (I := I) M hr hn hk hR hle q m (j + 1) c (by omega) (by omega)
    rw [show cntN (fun j => gD (R r) j == 16 + k) (j + 1) = cntN (fun j => gD (R r) j == 16 + k) j + bN (gD (R r) j == 16 + k) from rfl, ← Nat.add_assoc] at ih
    have hx := hR _ (gD_mem (show j < (R r).length by omega))
    rw [F_X9_standing_55, md_gr26, Option.bind_some, md_il26, ix_nI (show r < 24 by omega) (by decide), Option.bind_some, Option.bind_some, (M r hr).1, if_neg (nI_ge (by omega) (by omega)), md_gr27, Option.bind_some, show (24 : Int32) = nI 24 from rfl, nI_mulN, nI_add, md_il27, ix_nI (show 24 * r + j < 576 by omega) (by decide), Option.bind_some, Option.bind_some, (M r hr).2 j (by omega), show (16 : Int32) = nI 16 from rfl, nI_add]
    unfold F_X9_standing_91
    by_cases c1 : gD (R r) j = 16 + k
    · rw [if_pos (by rw [c1]), one_spec, Option.bind_some, oneI_1, nI_add, nI_1]
      rw [show (gD (R r) j == 16 + k) = true by simpa using c1] at ih
      exact ih
    · rw [if_neg (fun z => c1 ((nI_eq (by omega) (by omega)).mp z)), one_spec, Option.bind_some, oneI_z, nI_add, nI_1]
      rw [show (gD (R r) j == 16 + k) = false by simpa using c1] at ih
      exact ih
theorem mst_44 {I : Nat → Int32} {A : Nat → Nat → Int32} {n k : Nat} {R : Nat → List Nat} (M : RulM A n R) (hI : I 25 = nI n) (hn : n ≤ 23) (hk : k < 100) (hR : ∀ j, j < n → (∀ x ∈ R j, x < 1000) ∧ (R j).length ≤ 24) : ∀ (q m r c : Nat), r + m = n → m < q → F_X9_standing_44 q 88 (nI k) (nI (c + sumN (fun j => cnL (16 + k) (R j)) r)) (nI r) (md X I A Y) = some (nI (c + sumN (fun j => cnL (16 + k) (R j)) n))
  | 0, m, r, c, h1, h2 => by omega
  | q + 1, 0, r, c, h1, h2 => by
    rw [F_X9_standing_44, md_gi25, Option.bind_some, hI, if_pos (nI_le (by omega) (by omega)), show r = n by omega]
  | q + 1, m + 1, r, c, h1, h2 => by
    have ih := mst_44 M hI hn hk hR q m (r + 1) c (by omega) (by omega)
    rw [show sumN (fun j => cnL (16 + k) (R j)) (r + 1) = sumN (fun j => cnL (16 + k) (R j)) r + cnL (16 + k) (R r) from rfl, ← Nat.add_assoc] at ih
    rw [F_X9_standing_44, md_gi25, Option.bind_some, hI, if_neg (nI_ge (by omega) (by omega))]
    exact (mst_55 (K := F_X9_standing_44 q) M (show r < n by omega) hn hk (hR r (by omega)).1 (hR r (by omega)).2 am_F (R r).length 0 _ (by omega) (by show _ < 100000; have := (hR r (by omega)).2; omega)).trans ih
theorem mst_4 {I : Nat → Int32} {A : Nat → Nat → Int32} {n k : Nat} {l : List Nat} {R : Nat → List Nat} (M : MU I A l n R) (hn : n ≤ 23) (hk : k < 100) (hl : ∀ x ∈ l, x < 1000) (hle : l.length ≤ 24) (hR : ∀ j, j < n → (∀ x ∈ R j, x < 1000) ∧ (R j).length ≤ 24) : ∀ (q m j : Nat), j + m = l.length → m < q → F_X9_standing_4 q 88 (nI k) (nI (cntN (fun j => gD l j == 16 + k) j)) (nI j) (md X I A Y) = some (nI (stN n k l R))
  | 0, m, j, h1, h2 => by omega
  | q + 1, 0, j, h1, h2 => by
    rw [F_X9_standing_4, md_gi24, Option.bind_some, M.1.1, if_pos (nI_le (by omega) (by omega)), show j = l.length by omega]
    exact mst_44 M.2.2 M.2.1 hn hk hR am_F n 0 _ (by omega) (by show _ < 100000; omega)
  | q + 1, m + 1, j, h1, h2 => by
    have ih := mst_4 M hn hk hl hle hR q m (j + 1) (by omega) (by omega)
    rw [show cntN (fun j => gD l j == 16 + k) (j + 1) = cntN (fun j => gD l j == 16 + k) j + bN (gD l j == 16 + k) from rfl] at ih
    have hx := hl _ (gD_mem (show j < l.length by omega))
    rw [F_X9_standing_4, md_gi24, Option.bind_some, M.1.1, if_neg (nI_ge (by omega) (by omega)), md_gr23, Option.bind_some, md_il23, ix_nI (show j < 24 by omega) (by decide), Option.bind_some, Option.bind_some, M.1.2 j (by omega), show (16 : Int32) = nI 16 from rfl, nI_add]
    unfold F_X9_standing_31
    by_cases c1 : gD l j = 16 + k
    · rw [if_pos (by rw [c1]), one_spec, Option.bind_some, oneI_1, nI_add, nI_1]
      rw [show (gD l j == 16 + k) = true by simpa using c1] at ih
      exact ih
    · rw [if_neg (fun z => c1 ((nI_eq (by omega) (by omega)).mp z)), one_spec, Option.bind_some, oneI_z, nI_add, nI_1]
      rw [show (gD l j == 16 + k) = false by simpa using c1] at ih
      exact ih
theorem mstand_t {I : Nat → Int32} {A : Nat → Nat → Int32} {n k : Nat} {l : List Nat} {R : Nat → List Nat} (M : MU I A l n R) (hn : n ≤ 23) (hk : k < 100) (hl : ∀ x ∈ l, x < 1000) (hle : l.length ≤ 24) (hR : ∀ j, j < n → (∀ x ∈ R j, x < 1000) ∧ (R j).length ≤ 24) : F_X9_standing 88 (nI k) (md X I A Y) = some (nI (stN n k l R)) := by
  unfold F_X9_standing F_X9_standing_b
  rw [md_obj, Option.bind_some]
  exact mst_4 M hn hk hl hle hR am_F l.length 0 (by omega) (by show _ < 100000; omega)
/-! put back in the row -/
theorem back_40 {K : Nat → Int32 → Int32 → am_H → Option am_H} {I : Nat → Int32} {rule k : Nat} : ∀ (q m : Nat) (A : Nat → Nat → Int32), k + m + 1 < 24 → m < q → ∃ A', F_X9_putBackInRow_40 K q 88 (nI rule) (nI k) (nI 1) (nI (k + m)) (md X I A Y) = F_X9_putBackInRow_71 K am_F 88 (nI rule) (nI k) (nI 1) (nI 0) (md X I A' Y) ∧ (∀ i, A' 23 i = if k + 1 < i ∧ i ≤ k + m + 1 then A 23 (i - 1) else A 23 i) ∧ ∀ q, q ≠ 23 → A' q = A q
  | 0, m, A, h1, h2 => by omega
  | q + 1, 0, A, h1, h2 => by
    rw [F_X9_putBackInRow_40, if_pos (nI_le (by omega) (by omega))]
    exact ⟨A, rfl, fun i => by rw [if_neg (by omega)], fun _ _ => rfl⟩
  | q + 1, m + 1, A, h1, h2 => by
    rw [F_X9_putBackInRow_40, if_neg (nI_ge (by omega) (by omega)), md_gr23, Option.bind_some, Option.bind_some, md_il23, ix_nI (show k + (m + 1) < 24 by omega) (by decide), Option.bind_some, Option.bind_some, nI_add, md_is23, ix_nI (show k + (m + 1) + 1 < 24 by omega) (by decide), Option.bind_some, Option.bind_some, dn_nI, show nI (k + (m + 1)) - 1 = nI (k + m) from pre_nI (k + m)]
    obtain ⟨A', e, g1, g2⟩ := back_40 (K := K) (I := I) (rule := rule) (k := k) q m (upA A 23 (k + (m + 1) + 1) (A 23 (k + (m + 1)))) (by omega) (by omega)
    refine ⟨A', e, fun i => ?_, fun q hq => (g2 q hq).trans (upA_ne hq)⟩
    rw [g1 i, upA_self]
    by_cases c : k + 1 < i ∧ i ≤ k + m + 1
    · rw [if_pos c, if_pos (show k + 1 < i ∧ i ≤ k + (m + 1) + 1 by omega), upd_ne (by omega)]
    · rw [if_neg c]
      by_cases c2 : i = k + (m + 1) + 1
      · rw [c2, upd_self, if_pos (by omega)]
        rfl
      · rw [upd_ne c2, if_neg (by omega)]
theorem back_71 {K : Nat → Int32 → Int32 → am_H → Option am_H} {I : Nat → Int32} {A : Nat → Nat → Int32} {rule k L : Nat} {p : Nat × Nat} (hI : I 24 = nI L) (hk : k + 1 < 24) (hr : rule < 24) (h0 : A 27 (24 * rule) = nI p.1) (h1 : A 27 (24 * rule + 1) = nI p.2) : F_X9_putBackInRow_71 K am_F 88 (nI rule) (nI k) (nI 1) (nI 0) (md X I A Y) = K 88 (nI rule) (nI (k + 1)) (md X (upd I 24 (nI (L + 1))) (upA (upA A 23 k (nI p.1)) 23 (k + 1) (nI p.2)) Y) := by
  have e0 : upA A 23 k (nI p.1) 27 = A 27 := upA_ne (by decide)
  rw [show am_F = 99997 + 1 + 1 + 1 from rfl, F_X9_putBackInRow_71, if_neg (nI_nlt (by omega) (by omega)), md_gr23, Option.bind_some, md_gr27, Option.bind_some, show (24 : Int32) = nI 24 from rfl, nI_mulN, nI_add, Nat.add_zero, md_il27, ix_nI (show 24 * rule < 576 by omega) (by decide), Option.bind_some, Option.bind_some, h0, nI_add, Nat.add_zero, md_is23, ix_nI (show k < 24 by omega) (by decide), Option.bind_some, Option.bind_some, nI_1]
  rw [F_X9_putBackInRow_71, if_neg (nI_nlt (by omega) (by omega)), md_gr23, Option.bind_some, md_gr27, Option.bind_some, show (24 : Int32) = nI 24 from rfl, nI_mulN, nI_add, md_il27, ix_nI (show 24 * rule + (0 + 1) < 576 by omega) (by decide), Option.bind_some, Option.bind_some, e0, h1, nI_add, md_is23, ix_nI (show k + (0 + 1) < 24 by omega) (by decide), Option.bind_some, Option.bind_some, nI_1]
  rw [F_X9_putBackInRow_71, if_pos (nI_lt (by omega) (by omega)), md_gi24, Option.bind_some, hI, nI_add, md_pi24, Option.bind_some]
  unfold F_X9_putBackInRow_114
  rw [nI_1]
theorem back_2 {rule n : Nat} {p : Nat × Nat} {R : Nat → List Nat} (hr : rule < n) (hn : n ≤ 23) (hR : R rule = [p.1, p.2]) (hp : p.1 < 1000 ∧ p.2 < 1000 ∧ p.2 ≠ 16 + rule) : ∀ (q : Nat) (l1 l2 : List Nat) (I : Nat → Int32) (A : Nat → Nat → Int32), MU I A (l1 ++ l2) n R → (∀ x ∈ l2, x < 1000) → (exL rule p l2).length < q → l1.length + (exL rule p l2).length ≤ 24 →
    ∃ I' A', F_X9_putBackInRow_2 q 88 (nI rule) (nI l1.length) (md X I A Y) = some (md X I' A' Y) ∧ MU I' A' (l1 ++ exL rule p l2) n R ∧ ChU I I' A A'
  | 0, l1, l2, I, A, M, hl, h2, h3 => by omega
  | q + 1, l1, [], I, A, M, hl, h2, h3 => by
    have hL : (l1 ++ []).length = l1.length := by simp
    rw [F_X9_putBackInRow_2, md_gi24, Option.bind_some, M.1.1, if_pos (nI_le (by omega) (by omega))]
    exact ⟨I, A, rfl, M, ChU.rf⟩
  | q + 1, l1, x :: t, I, A, M, hl, h2, h3 => by
    have hL : (l1 ++ x :: t).length = l1.length + (t.length + 1) := by simp
    have hx : x < 1000 := hl x List.mem_cons_self
    have hel := ex_len (k := rule) (q := p) t
    rw [ex_cons] at h2 h3 ⊢
    have hm : l1.length + (t.length + 1) ≤ 24 := by
      by_cases c : x = 16 + rule
      · rw [if_pos c] at h3
        have h3 : l1.length + ((exL rule p t).length + 1 + 1) ≤ 24 := h3
        omega
      · rw [if_neg c] at h3
        have h3 : l1.length + ((exL rule p t).length + 1) ≤ 24 := h3
        omega
    rw [F_X9_putBackInRow_2, md_gi24, Option.bind_some, M.1.1, if_neg (nI_ge (by omega) (by omega)), md_gr23, Option.bind_some, md_il23, ix_nI (show l1.length < 24 by omega) (by decide), Option.bind_some, Option.bind_some, M.1.2 _ (by omega), gD_at, show (16 : Int32) = nI 16 from rfl, nI_add]
    by_cases c : x = 16 + rule
    · rw [if_pos c] at h2 h3 ⊢
      have h2' : (exL rule p t).length + 1 + 1 < q + 1 := h2
      have h3' : l1.length + ((exL rule p t).length + 1 + 1) ≤ 24 := h3
      obtain ⟨m26, m27⟩ := M.2.2 rule hr
      rw [hR] at m26 m27
      have a0 : A 27 (24 * rule) = nI p.1 := m27 0 (by show 0 < 2; omega)
      have a1 : A 27 (24 * rule + 1) = nI p.2 := m27 1 (by show 1 < 2; omega)
      obtain ⟨A1, e1, g1, g2⟩ := back_40 (X := X) (Y := Y) (K := F_X9_putBackInRow_2 q) (I := I) (rule := rule) (k := l1.length) am_F t.length A (by omega) (by show _ < 100000; omega)
      have e2 := back_71 (X := X) (Y := Y) (K := F_X9_putBackInRow_2 q) (I := I) (A := A1) (rule := rule) (k := l1.length) (L := (l1 ++ x :: t).length) (p := p) M.1.1 (by omega) (by omega) (by rw [g2 _ (by decide)]; exact a0) (by rw [g2 _ (by decide)]; exact a1)
      have ch : ChU I (upd I 24 (nI ((l1 ++ x :: t).length + 1))) A (upA (upA A1 23 l1.length (nI p.1)) 23 (l1.length + 1) (nI p.2)) := ⟨fun k h1 h2 => upd_ne h1, fun k h1 h2 h3 => by rw [upA_ne h1, upA_ne h1, g2 k h1]⟩
      have M' : MU (upd I 24 (nI ((l1 ++ x :: t).length + 1))) (upA (upA A1 23 l1.length (nI p.1)) 23 (l1.length + 1) (nI p.2)) ((l1 ++ [p.1]) ++ (p.2 :: t)) n R := by
        refine ⟨⟨?_, fun j hj => ?_⟩, (upd_ne (by decide)).trans M.2.1, fun k hk => ?_⟩
        · rw [upd_self]
          congr 1
          simp
          omega
        · have hj : j < l1.length + 1 + (t.length + 1) := by
            have h9 : j < l1.length + (t.length + 1 + 1) := by simpa using hj
            omega
          rw [upA_self, upA_self]
          rcases Nat.lt_trichotomy j l1.length with z | z | z
          · rw [upd_ne (by omega), upd_ne (by omega), g1, if_neg (by omega), M.1.2 j (by omega), gD_app1 z, gD_app1 (by simp; omega), gD_app1 z]
          · rw [upd_ne (by omega), z, upd_self, gD_app1 (by simp), gD_at]
          · by_cases z2 : j = l1.length + 1
            · rw [z2, upd_self, show l1.length + 1 = (l1 ++ [p.1]).length by simp, gD_at]
            · rw [upd_ne z2, upd_ne (by omega), g1, if_pos (by omega), M.1.2 (j - 1) (by omega)]
              obtain ⟨u, rfl⟩ : ∃ u, j = l1.length + 2 + u := ⟨j - (l1.length + 2), by omega⟩
              have q1 : gD (l1 ++ x :: t) (l1.length + (u + 1)) = gD (x :: t) (u + 1) := gD_app2
              have q2 : gD (l1 ++ [p.1] ++ p.2 :: t) ((l1 ++ [p.1]).length + (u + 1)) = gD (p.2 :: t) (u + 1) := gD_app2
              rw [show l1.length + 2 + u - 1 = l1.length + (u + 1) by omega, q1, show l1.length + 2 + u = (l1 ++ [p.1]).length + (u + 1) by simp; omega, q2]
              rfl
        · obtain ⟨k1, k2⟩ := M.2.2 k hk
          rw [upA_ne (by decide), upA_ne (by decide), upA_ne (by decide), upA_ne (by decide), g2 _ (by decide), g2 _ (by decide)]
          exact ⟨k1, k2⟩
      have e9 : exL rule p (p.2 :: t) = p.2 :: exL rule p t := by rw [ex_cons, if_neg hp.2.2]
      obtain ⟨I', A', e, M2, ch2⟩ := back_2 hr hn hR hp q (l1 ++ [p.1]) (p.2 :: t) _ _ M' (fun y hy => by
        rcases List.mem_cons.mp hy with z | z
        · rw [z]; exact hp.2.1
        · exact hl y (List.mem_cons_of_mem _ z)) (by rw [e9]; show (exL rule p t).length + 1 < q; omega) (by rw [e9]; simp; omega)
      rw [e9, List.append_assoc] at M2
      refine ⟨I', A', ?_, M2, ch.tr ch2⟩
      rw [if_pos (by rw [c]), md_gr26, Option.bind_some, md_il26, ix_nI (show rule < 24 by omega) (by decide), Option.bind_some, Option.bind_some, m26, Option.bind_some, show nI [p.1, p.2].length - 1 = nI 1 from pre_nI 1, hL, show l1.length + (t.length + 1) = l1.length + t.length + 1 by omega, pre_nI]
      refine e1.trans (e2.trans ?_)
      rw [show nI (l1.length + 1) = nI (l1 ++ [p.1]).length by simp]
      exact e
    · rw [if_neg c] at h2 h3 ⊢
      have h2' : (exL rule p t).length + 1 < q + 1 := h2
      have h3' : l1.length + ((exL rule p t).length + 1) ≤ 24 := h3
      obtain ⟨I', A', e, M2, ch2⟩ := back_2 hr hn hR hp q (l1 ++ [x]) t I A (by rw [List.append_assoc]; exact M) (fun y hy => hl y (List.mem_cons_of_mem _ hy)) (by omega) (by simp; omega)
      rw [List.append_assoc] at M2
      refine ⟨I', A', ?_, M2, ch2⟩
      rw [if_neg (fun z => c ((nI_eq (by omega) (by omega)).mp z))]
      unfold F_X9_putBackInRow_114
      rw [nI_1, show nI (l1.length + 1) = nI (l1 ++ [x]).length by simp]
      exact e
/-! put back in a rule -/
theorem bin_50 {K : Nat → Int32 → Int32 → Int32 → am_H → Option am_H} {I : Nat → Int32} {to rule k : Nat} (ht : to < 24) : ∀ (q m : Nat) (A : Nat → Nat → Int32), k + m + 1 < 24 → m < q → ∃ A', F_X9_putBackIn_50 K q 88 (nI to) (nI rule) (nI k) (nI 1) (nI (k + m)) (md X I A Y) = F_X9_putBackIn_92 K am_F 88 (nI to) (nI rule) (nI k) (nI 1) (nI 0) (md X I A' Y) ∧ (∀ i, A' 27 i = if 24 * to + k + 1 < i ∧ i ≤ 24 * to + k + m + 1 then A 27 (i - 1) else A 27 i) ∧ ∀ q, q ≠ 27 → A' q = A q
  | 0, m, A, h1, h2 => by omega
  | q + 1, 0, A, h1, h2 => by
    rw [F_X9_putBackIn_50, if_pos (nI_le (by omega) (by omega))]
    exact ⟨A, rfl, fun i => by rw [if_neg (by omega)], fun _ _ => rfl⟩
  | q + 1, m + 1, A, h1, h2 => by
    rw [F_X9_putBackIn_50, if_neg (nI_ge (by omega) (by omega)), md_gr27, Option.bind_some, Option.bind_some, show (24 : Int32) = nI 24 from rfl, nI_mulN, nI_add, md_il27, ix_nI (show 24 * to + (k + (m + 1)) < 576 by omega) (by decide), Option.bind_some, Option.bind_some, nI_add, md_is27, ix_nI (show 24 * to + (k + (m + 1)) + 1 < 576 by omega) (by decide), Option.bind_some, Option.bind_some, dn_nI, show nI (k + (m + 1)) - 1 = nI (k + m) from pre_nI (k + m)]
    obtain ⟨A', e, g1, g2⟩ := bin_50 (K := K) (I := I) (rule := rule) (k := k) ht q m (upA A 27 (24 * to + (k + (m + 1)) + 1) (A 27 (24 * to + (k + (m + 1))))) (by omega) (by omega)
    refine ⟨A', e, fun i => ?_, fun q hq => (g2 q hq).trans (upA_ne hq)⟩
    rw [g1 i, upA_self]
    by_cases c : 24 * to + k + 1 < i ∧ i ≤ 24 * to + k + m + 1
    · rw [if_pos c, if_pos (show 24 * to + k + 1 < i ∧ i ≤ 24 * to + k + (m + 1) + 1 by omega), upd_ne (by omega)]
    · rw [if_neg c]
      by_cases c2 : i = 24 * to + (k + (m + 1)) + 1
      · rw [c2, upd_self, if_pos (by omega)]
        rfl
      · rw [upd_ne c2, if_neg (by omega)]
theorem bin_92 {K : Nat → Int32 → Int32 → Int32 → am_H → Option am_H} {I : Nat → Int32} {A : Nat → Nat → Int32} {to rule k L : Nat} {p : Nat × Nat} (hI : A 26 to = nI L) (ht : to < 24) (hne : to ≠ rule) (hk : k + 1 < 24) (hr : rule < 24) (h0 : A 27 (24 * rule) = nI p.1) (h1 : A 27 (24 * rule + 1) = nI p.2) : F_X9_putBackIn_92 K am_F 88 (nI to) (nI rule) (nI k) (nI 1) (nI 0) (md X I A Y) = K 88 (nI to) (nI rule) (nI (k + 1)) (md X I (upA (upA (upA A 27 (24 * to + k) (nI p.1)) 27 (24 * to + k + 1) (nI p.2)) 26 to (nI (L + 1))) Y) := by
  have e0 : upA A 27 (24 * to + k) (nI p.1) 27 (24 * rule + (0 + 1)) = nI p.2 := by rw [upA_self, upd_ne (by omega)]; exact h1
  have e1 : upA (upA A 27 (24 * to + k) (nI p.1)) 27 (24 * to + k + 1) (nI p.2) 26 to = nI L := by rw [upA_ne (by decide), upA_ne (by decide)]; exact hI
  rw [show am_F = 99997 + 1 + 1 + 1 from rfl, F_X9_putBackIn_92, if_neg (nI_nlt (by omega) (by omega)), md_gr27, Option.bind_some, Option.bind_some, show (24 : Int32) = nI 24 from rfl, nI_mulN, nI_mulN, nI_add, nI_add, nI_add, Nat.add_zero, Nat.add_zero, md_il27, ix_nI (show 24 * rule < 576 by omega) (by decide), Option.bind_some, Option.bind_some, h0, md_is27, ix_nI (show 24 * to + k < 576 by omega) (by decide), Option.bind_some, Option.bind_some, nI_1]
  rw [F_X9_putBackIn_92, if_neg (nI_nlt (by omega) (by omega)), md_gr27, Option.bind_some, Option.bind_some, show (24 : Int32) = nI 24 from rfl, nI_mulN, nI_mulN, nI_add, nI_add, nI_add, md_il27, ix_nI (show 24 * rule + (0 + 1) < 576 by omega) (by decide), Option.bind_some, Option.bind_some, e0, md_is27, ix_nI (show 24 * to + k + (0 + 1) < 576 by omega) (by decide), Option.bind_some, Option.bind_some, nI_1]
  rw [F_X9_putBackIn_92, if_pos (nI_lt (by omega) (by omega)), md_gr26, Option.bind_some, md_il26, ix_nI ht (by decide), Option.bind_some, Option.bind_some, e1, nI_add, md_is26, ix_nI ht (by decide), Option.bind_some, Option.bind_some]
  unfold F_X9_putBackIn_142
  rw [nI_1]
end UM2
