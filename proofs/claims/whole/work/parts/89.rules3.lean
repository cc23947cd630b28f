/-! RULES: the class joins, cleans -/
section UJ
variable {n : Nat} {l : List Nat} {R : Nat → List Nat}
theorem join_loop {a b c : Nat} (hl : ∀ x ∈ l, x < 1000) (ha : a < 1000) (hb : b < 1000) : ∀ (q : Nat) (l1 l2 acc : List Nat) (h : am_H), UA h n (nI a) (nI b) l acc R → l1 ++ l2 = l → l2.length < q → acc.length + l2.length ≤ 24 →
    ∃ h' sp', F_X5_join_9 q 30 (nI c) (nI l1.length) h = some h' ∧ UA h' n (nI a) (nI b) (acc ++ jnL a b c l2) sp' R ∧ Fr inU h h'
  | 0, l1, l2, acc, h, U, h1, h2, h3 => by omega
  | q + 1, l1, [], acc, h, U, h1, h2, h3 => by
    have hle := U.2.1.le
    have hL : l.length = l1.length := by rw [← h1]; simp
    obtain ⟨h', e, r, G⟩ := U.2.1.bec (by omega) U.2.2.1
    refine ⟨h', acc, ?_, by rw [show jnL a b c [] = [] from rfl, List.append_nil]; exact U.row G r, G.mono (fun q z => by unfold inU; omega)⟩
    rw [F_X5_join_9, U.gr.1, Option.bind_some, U.2.1.len, Option.bind_some, if_pos (nI_le (by omega) (by omega)), Option.bind_some, U.gr.2.2.1, Option.bind_some, e]
    rfl
  | q + 1, l1, x :: t, acc, h, U, h1, h2, h3 => by
    have hle := U.2.1.le
    have hL : l.length = l1.length + (t.length + 1) := by rw [← h1]; simp
    have h2' : t.length + 1 < q + 1 := h2
    have h3' : acc.length + (t.length + 1) ≤ 24 := h3
    have ex : gD l l1.length = x := by rw [← h1]; exact gD_at
    have hx : x < 1000 := hl x (by rw [← h1]; simp)
    have one : jnL a b c (x :: t) = x :: jnL a b c t → ∃ h' sp', F_X5_join_66 (F_X5_join_9 q) 30 (nI c) (nI l1.length) h = some h' ∧ UA h' n (nI a) (nI b) (acc ++ jnL a b c (x :: t)) sp' R ∧ Fr inU h h' := fun ej => by
      obtain ⟨h', e, r, G⟩ := U.2.2.1.add (show acc.length < 24 by omega) x
      have U' := U.spr G r
      obtain ⟨h2', sp2, e2, U2, G2⟩ := join_loop hl ha hb q (l1 ++ [x]) t (acc ++ [x]) h' U' (by rw [← h1]; simp) (by omega) (by rw [List.length_append]; show acc.length + 1 + t.length ≤ 24; omega)
      rw [List.length_append] at e2
      rw [List.append_assoc] at U2
      refine ⟨h2', sp2, ?_, by rw [ej]; exact U2, (G.mono (T := inU) (fun q z => by unfold inU; omega)).tr G2 (fun _ z => z) (fun _ z => z)⟩
      unfold F_X5_join_66 F_X5_join_81
      rw [U.gr.2.2.1, Option.bind_some, U.gr.1, Option.bind_some, U.2.1.at (by omega), Option.bind_some, ex, e, Option.bind_some, nI_1]
      exact e2
    rw [F_X5_join_9, U.gr.1, Option.bind_some, U.2.1.len, Option.bind_some, if_neg (nI_ge (by omega) (by omega)), Option.bind_some, U.2.1.at (by omega), Option.bind_some, ex, U.gr.2.2.2.2.1, Option.bind_some]
    by_cases c1 : x = a
    · rw [if_pos (by rw [c1]), Option.bind_some, nI_1]
      cases t with
      | nil =>
        rw [U.2.1.out (fun z => by unfold vd at z; rw [nI_toInt (by omega)] at z; have h9 : l.length = l1.length + 1 := hL; omega), Option.bind_some, U.gr.2.2.2.2.2, Option.bind_some, if_neg (fun z => nI_nm1 (k := b) (by omega) z.symm)]
        exact one rfl
      | cons y t =>
        have hL' : l.length = l1.length + (t.length + 1 + 1) := hL
        have ey : gD l (l1.length + 1) = y := by rw [← h1]; exact gD_at1
        have hy : y < 1000 := hl y (by rw [← h1]; simp)
        rw [U.2.1.at (by omega), Option.bind_some, ey, U.gr.2.2.2.2.2, Option.bind_some]
        by_cases c2 : y = b
        · rw [if_pos (by rw [c2]), U.gr.2.2.1, Option.bind_some]
          obtain ⟨h', e, r, G⟩ := U.2.2.1.add (show acc.length < 24 by omega) c
          have U' := U.spr G r
          have h2'' : t.length + 1 + 1 < q + 1 := h2'
          have h3'' : acc.length + (t.length + 1 + 1) ≤ 24 := h3'
          obtain ⟨h2', sp2, e2, U2, G2⟩ := join_loop (c := c) hl ha hb q (l1 ++ [x, y]) t (acc ++ [c]) h' U' (by rw [← h1]; simp) (by omega) (by rw [List.length_append]; show acc.length + 1 + t.length ≤ 24; omega)
          rw [List.length_append] at e2
          rw [List.append_assoc] at U2
          refine ⟨h2', sp2, ?_, ?_, (G.mono (T := inU) (fun q z => by unfold inU; omega)).tr G2 (fun _ z => z) (fun _ z => z)⟩
          · unfold F_X5_join_81
            rw [e, Option.bind_some, nI_1]
            exact e2
          · rw [show jnL a b c (x :: y :: t) = c :: jnL a b c t from if_pos ⟨c1, c2⟩]
            exact U2
        · rw [if_neg (fun z => c2 ((nI_eq (by omega) (by omega)).mp z))]
          exact one (if_neg (fun z => c2 z.2))
    · rw [if_neg (fun z => c1 ((nI_eq (by omega) (by omega)).mp z))]
      refine one ?_
      cases t with
      | nil => rfl
      | cons y t => exact if_neg (fun z => c1 z.1)
theorem join_t {a b c : Nat} {h : am_H} {sp : List Nat} (hl : ∀ x ∈ l, x < 1000) (ha : a < 1000) (hb : b < 1000) (U : UA h n (nI a) (nI b) l sp R) : ∃ h' sp', F_X5_join 30 (nI c) h = some h' ∧ UA h' n (nI a) (nI b) (jnL a b c l) sp' R ∧ Fr inU h h' := by
  have hle := U.2.1.le
  obtain ⟨h1, e1, r1, G1⟩ := U.2.2.1.emp
  have U1 := U.spr G1 r1
  obtain ⟨h', sp', e, U', G⟩ := join_loop (c := c) hl ha hb am_F [] l [] h1 U1 rfl (by show _ < 100000; omega) (by show 0 + l.length ≤ 24; omega)
  refine ⟨h', sp', ?_, U', (G1.mono (T := inU) (fun q z => by unfold inU; omega)).tr G (fun _ z => z) (fun _ z => z)⟩
  unfold F_X5_join F_X5_join_b
  rw [U.1, Option.bind_some, U.gr.2.2.1, Option.bind_some, e1, Option.bind_some]
  exact e
theorem stand_loop {h : am_H} {fo la : Int32} {sp : List Nat} {k : Nat} (U : UA h n fo la l sp R) (hk : k < 100) (hn : n ≤ 12) (hR : ∀ j, j < n → ∀ x ∈ R j, x < 1000) : ∀ (q m j c : Nat), j + m = n → m < q → F_X5_standing_11 q 30 (nI (16 + k)) (nI (c + sumN (fun j => cnL (16 + k) (R j)) j)) (nI j) h = some (nI (c + sumN (fun j => cnL (16 + k) (R j)) n))
  | 0, m, j, c, h1, h2 => by omega
  | q + 1, 0, j, c, h1, h2 => by
    rw [F_X5_standing_11, U.gr.2.2.2.1, Option.bind_some, if_pos (nI_le (by omega) (by omega)), show j = n by omega]
    rfl
  | q + 1, m + 1, j, c, h1, h2 => by
    have ih := stand_loop U hk hn hR q m (j + 1) c (by omega) (by omega)
    rw [show sumN (fun j => cnL (16 + k) (R j)) (j + 1) = sumN (fun j => cnL (16 + k) (R j)) j + cnL (16 + k) (R j) from rfl, ← Nat.add_assoc] at ih
    rw [F_X5_standing_11, U.gr.2.2.2.1, Option.bind_some, if_neg (nI_ge (by omega) (by omega)), U.gr.2.1, Option.bind_some, U.ln, Option.bind_some, if_neg (nI_ge (by omega) (by omega)), Option.bind_some, U.al (by omega), Option.bind_some, (U.2.2.2.2 j (by omega)).times (hR j (by omega)) (by omega), Option.bind_some, nI_add, nI_1]
    exact ih
theorem standing_t {h : am_H} {fo la : Int32} {sp : List Nat} {k : Nat} (U : UA h n fo la l sp R) (hk : k < 100) (hn : n ≤ 12) (hl : ∀ x ∈ l, x < 1000) (hR : ∀ j, j < n → ∀ x ∈ R j, x < 1000) : F_X5_standing 30 (nI (16 + k)) h = some (nI (stN n k l R)) := by
  unfold F_X5_standing F_X5_standing_b
  rw [U.1, Option.bind_some, U.gr.1, Option.bind_some, U.2.1.times hl (by omega), Option.bind_some]
  exact stand_loop U hk hn hR am_F n 0 (cnL (16 + k) l) (by omega) (by show _ < 100000; omega)
end UJ
/-! a rule is put back into a row -/
def EX (h : am_H) (a k : Nat) (l acc : List Nat) (q : Nat × Nat) : Prop := (∃ x y z, am_obj 30 5 h = some [.ref 31, .ref 33, .ref 34, .int x, .int y, .int z]) ∧ (∃ g, am_ra 4 33 h = some (12, g) ∧ ∀ k, k < 12 → g k = 36 + 2 * k) ∧ LR h a l ∧ LR h 34 acc ∧ LR h (36 + 2 * k) [q.1, q.2]
theorem expand_loop {a k : Nat} {l : List Nat} {p : Nat × Nat} (ha : a ≠ 34 ∧ a ≠ 35 ∧ a + 1 ≠ 34 ∧ a ≠ 36 + 2 * k ∧ a ≠ 37 + 2 * k ∧ a + 1 ≠ 36 + 2 * k) (hk : k < 12) (hl : ∀ x ∈ l, x < 1000) : ∀ (q : Nat) (l1 l2 acc : List Nat) (h : am_H), EX h a k l acc p → l1 ++ l2 = l → l2.length < q → acc.length + (exL k p l2).length ≤ 24 →
    ∃ h' sp', F_X5_expand_9 q 30 a (nI k) (nI l1.length) h = some h' ∧ LR h' a (acc ++ exL k p l2) ∧ LR h' 34 sp' ∧ Fr (fun q => (q = a ∨ q = a + 1) ∨ (q = 34 ∨ q = 34 + 1)) h h'
  | 0, l1, l2, acc, h, E, h1, h2, h3 => by omega
  | q + 1, l1, [], acc, h, E, h1, h2, h3 => by
    obtain ⟨⟨x, y, z, o⟩, hg, ra, rs, rk⟩ := E
    have hle := ra.le
    have hL : l.length = l1.length := by rw [← h1]; simp
    obtain ⟨h', e, r, G⟩ := ra.bec (b := 34) (by omega) rs
    refine ⟨h', acc, ?_, by rw [show exL k p [] = [] from rfl, List.append_nil]; exact r, rs.fr G (by omega) (by omega), G.mono (fun q z => Or.inl z)⟩
    have g2 : am_gr 5 2 30 h = some 34 := by unfold am_gr; rw [o]; rfl
    rw [F_X5_expand_9, ra.len, Option.bind_some, if_pos (nI_le (by omega) (by omega)), g2, Option.bind_some, e]
    rfl
  | q + 1, l1, x :: t, acc, h, E, h1, h2, h3 => by
    have E' := E
    obtain ⟨⟨u, v, z, o⟩, ⟨g, hg, hg2⟩, ra, rs, rk⟩ := E
    have hle := ra.le
    have hL : l.length = l1.length + (t.length + 1) := by rw [← h1]; simp
    have h2' : t.length + 1 < q + 1 := h2
    have ex : gD l l1.length = x := by rw [← h1]; exact gD_at
    have hx : x < 1000 := hl x (by rw [← h1]; simp)
    have g2 : am_gr 5 2 30 h = some 34 := by unfold am_gr; rw [o]; rfl
    have g1 : am_gr 5 1 30 h = some 33 := by unfold am_gr; rw [o]; rfl
    have keep : ∀ {h' : am_H} {acc' : List Nat}, Fr (fun q => q = 34 ∨ q = 34 + 1) h h' → LR h' 34 acc' → EX h' a k l acc' p := fun G r => ⟨⟨u, v, z, (obj_at (G.2.2 _ (by omega))).trans o⟩, ⟨g, (ra_at (G.2.2 _ (by omega))).trans hg, hg2⟩, ra.fr G (by omega) (by omega), r, rk.fr G (by omega) (by omega)⟩
    rw [ex_cons] at h3 ⊢
    rw [F_X5_expand_9, ra.len, Option.bind_some, if_neg (nI_ge (by omega) (by omega)), ra.at (by omega), Option.bind_some, ex, show (16 : Int32) = nI 16 from rfl, nI_add]
    unfold F_X5_expand_67
    by_cases c : x = 16 + k
    · rw [if_pos c] at h3 ⊢
      have h3' : acc.length + ((exL k p t).length + 1 + 1) ≤ 24 := h3
      obtain ⟨h', e, r, G⟩ := rs.all (b := 36 + 2 * k) (by omega) rk (by show acc.length + 2 ≤ 24; omega)
      obtain ⟨h2', sp2, e2, r2, r3, G2⟩ := expand_loop ha hk hl q (l1 ++ [x]) t (acc ++ [p.1, p.2]) h' (keep G r) (by rw [← h1]; simp) (by omega) (by rw [List.length_append]; show acc.length + 2 + (exL k p t).length ≤ 24; omega)
      rw [List.length_append] at e2
      rw [List.append_assoc] at r2
      refine ⟨h2', sp2, ?_, r2, r3, G.tr G2 (fun q z => Or.inr z) (fun _ z => z)⟩
      rw [if_pos (by rw [c]), g2, Option.bind_some, g1, Option.bind_some, al_ra hg hk (by decide), Option.bind_some, hg2 k hk, Option.bind_some, al_ra hg hk (by decide), Option.bind_some, hg2 k hk, rk.len, Option.bind_some, show (0 : Int32) = nI 0 from rfl, e, Option.bind_some, nI_1]
      exact e2
    · rw [if_neg c] at h3 ⊢
      have h3' : acc.length + ((exL k p t).length + 1) ≤ 24 := h3
      obtain ⟨h', e, r, G⟩ := rs.add (by omega) x
      obtain ⟨h2', sp2, e2, r2, r3, G2⟩ := expand_loop ha hk hl q (l1 ++ [x]) t (acc ++ [x]) h' (keep G r) (by rw [← h1]; simp) (by omega) (by rw [List.length_append]; show acc.length + 1 + (exL k p t).length ≤ 24; omega)
      rw [List.length_append] at e2
      rw [List.append_assoc] at r2
      refine ⟨h2', sp2, ?_, r2, r3, G.tr G2 (fun q z => Or.inr z) (fun _ z => z)⟩
      rw [if_neg (fun z => c ((nI_eq (by omega) (by omega)).mp z)), g2, Option.bind_some, Option.bind_some, e, Option.bind_some, nI_1]
      exact e2
theorem expand_t {a k : Nat} {l acc : List Nat} {p : Nat × Nat} {h : am_H} (ha : a ≠ 34 ∧ a ≠ 35 ∧ a + 1 ≠ 34 ∧ a ≠ 36 + 2 * k ∧ a ≠ 37 + 2 * k ∧ a + 1 ≠ 36 + 2 * k) (hk : k < 12) (hl : ∀ x ∈ l, x < 1000) (E : EX h a k l acc p) (h3 : (exL k p l).length ≤ 24) : ∃ h' sp', F_X5_expand 30 a (nI k) h = some h' ∧ LR h' a (exL k p l) ∧ LR h' 34 sp' ∧ Fr (fun q => (q = a ∨ q = a + 1) ∨ (q = 34 ∨ q = 34 + 1)) h h' := by
  obtain ⟨⟨u, v, z, o⟩, ⟨g, hg, hg2⟩, ra, rs, rk⟩ := E
  have hle := ra.le
  obtain ⟨h1, e1, r1, G⟩ := rs.emp
  obtain ⟨h', sp', e, r2, r3, G2⟩ := expand_loop ha hk hl am_F [] l [] h1 ⟨⟨u, v, z, (obj_at (G.2.2 _ (by omega))).trans o⟩, ⟨g, (ra_at (G.2.2 _ (by omega))).trans hg, hg2⟩, ra.fr G (by omega) (by omega), r1, rk.fr G (by omega) (by omega)⟩ rfl (by show _ < 100000; omega) (by show 0 + _ ≤ 24; omega)
  refine ⟨h', sp', ?_, r2, r3, G.tr G2 (fun q z => Or.inr z) (fun _ z => z)⟩
  have g2 : am_gr 5 2 30 h = some 34 := by unfold am_gr; rw [o]; rfl
  unfold F_X5_expand F_X5_expand_b
  rw [o, Option.bind_some, g2, Option.bind_some, e1, Option.bind_some]
  exact e
section UB
variable {n : Nat} {fo la : Int32}
theorem UA.ex (h : am_H) {l sp : List Nat} {R : Nat → List Nat} (U : UA h n fo la l sp R) {k : Nat} (hk : k < 12) {p : Nat × Nat} (hp : R k = [p.1, p.2]) {a : Nat} {t : List Nat} (r : LR h a t) : EX h a k t sp p := ⟨⟨_, _, _, U.1⟩, U.2.2.2.1, r, U.2.2.1, by have := U.2.2.2.2 k hk; rw [hp] at this; exact this⟩
theorem put_loop {k : Nat} {p : Nat × Nat} {l : List Nat} (hk : k < n) (hn : n ≤ 12) : ∀ (q m j : Nat) (h : am_H) (sp : List Nat) (R : Nat → List Nat), UA h n fo la l sp R → R k = [p.1, p.2] → j + m = n → m < q → (∀ i, i < n → ∀ x ∈ R i, x < 1000) → (∀ i, j ≤ i → i < n → (exL k p (R i)).length ≤ 24) →
    ∃ h' sp' R', F_X5_putBack_11 q 30 (nI k) (nI j) h = some h' ∧ UA h' n fo la l sp' R' ∧ Fr inU h h' ∧ (∀ i, i < n → R' i = if i = k then [] else if j ≤ i then exL k p (R i) else R i)
  | 0, m, j, h, sp, R, U, hp, h1, h2, h3, h4 => by omega
  | q + 1, 0, j, h, sp, R, U, hp, h1, h2, h3, h4 => by
    obtain ⟨h', e, r, G⟩ := (U.2.2.2.2 k (by omega)).emp
    refine ⟨h', sp, _, ?_, U.part (by omega) G r, G.mono (fun q z => by unfold inU; omega), fun i hi => ?_⟩
    · rw [F_X5_putBack_11, U.gr.2.2.2.1, Option.bind_some, if_pos (nI_le (by omega) (by omega))]
      unfold F_X5_putBack_50
      rw [U.gr.2.1, Option.bind_some, U.al (by omega), Option.bind_some, e]
      rfl
    · show (if i = k then [] else R i) = _
      by_cases z : i = k
      · rw [if_pos z, if_pos z]
      · rw [if_neg z, if_neg z, if_neg (by omega)]
  | q + 1, m + 1, j, h, sp, R, U, hp, h1, h2, h3, h4 => by
    rw [F_X5_putBack_11, U.gr.2.2.2.1, Option.bind_some, if_neg (nI_ge (by omega) (by omega)), U.gr.2.1, Option.bind_some, U.ln, Option.bind_some, if_neg (nI_ge (by omega) (by omega))]
    unfold F_X5_putBack_44
    by_cases c : j = k
    · rw [if_pos (by rw [c]), nI_1]
      obtain ⟨h', sp', R', e, U', G, g⟩ := put_loop (p := p) hk hn q m (j + 1) h sp R U hp (by omega) (by omega) h3 (fun i h5 h6 => h4 i (by omega) h6)
      refine ⟨h', sp', R', e, U', G, fun i hi => ?_⟩
      rw [g i hi]
      by_cases z : i = k
      · rw [if_pos z, if_pos z]
      · rw [if_neg z, if_neg z]
        by_cases z2 : j ≤ i
        · rw [if_pos z2, if_pos (by omega)]
        · rw [if_neg z2, if_neg (by omega)]
    · obtain ⟨h1', sp1, e1, r1, r2, G1⟩ := expand_t (a := 36 + 2 * j) (by omega) (by omega) (h3 j (by omega)) (U.ex h (by omega) hp (U.2.2.2.2 j (by omega))) (h4 j (by omega) (by omega))
      have U1 : UA h1' n fo la l sp1 (fun i => if i = j then exL k p (R j) else R i) := by
        obtain ⟨g, hg, hg2⟩ := U.2.2.2.1
        refine ⟨(obj_at (G1.2.2 _ (by omega))).trans U.1, U.2.1.fr G1 (by omega) (by omega), r2, ⟨g, (ra_at (G1.2.2 _ (by omega))).trans hg, hg2⟩, fun i hi => ?_⟩
        show LR h1' (36 + 2 * i) (if i = j then exL k p (R j) else R i)
        by_cases z : i = j
        · rw [if_pos z, z]; exact r1
        · rw [if_neg z]; exact (U.2.2.2.2 i hi).fr G1 (by omega) (by omega)
      obtain ⟨h', sp', R', e, U', G, g⟩ := put_loop (p := p) hk hn q m (j + 1) h1' sp1 _ U1 (by show (if k = j then _ else R k) = _; rw [if_neg (fun z => c z.symm)]; exact hp) (by omega) (by omega) (fun i hi x hx => by
        by_cases z : i = j
        · have hx : x ∈ (if i = j then exL k p (R j) else R i) := hx
          rw [if_pos z] at hx
          have hpm : p.1 ∈ R k ∧ p.2 ∈ R k := by rw [hp]; exact ⟨List.mem_cons_self, List.mem_cons_of_mem _ List.mem_cons_self⟩
          rcases ex_mem _ x hx with y | y | y
          · rw [y]; exact h3 k hk _ hpm.1
          · rw [y]; exact h3 k hk _ hpm.2
          · exact h3 j (by omega) x y
        · have hx : x ∈ (if i = j then exL k p (R j) else R i) := hx
          rw [if_neg z] at hx
          exact h3 i hi x hx) (fun i h5 h6 => by
        show (exL k p (if i = j then _ else R i)).length ≤ 24
        rw [if_neg (by omega)]
        exact h4 i (by omega) h6)
      refine ⟨h', sp', R', ?_, U', (G1.mono (T := inU) (fun q z => by unfold inU; omega)).tr G (fun _ z => z) (fun _ z => z), fun i hi => ?_⟩
      · rw [if_neg (fun z => c ((nI_eq (by omega) (by omega)).mp z)), Option.bind_some, U.al (by omega), Option.bind_some, e1, Option.bind_some, nI_1]
        exact e
      · rw [g i hi]
        by_cases z : i = k
        · rw [if_pos z, if_pos z]
        · rw [if_neg z, if_neg z]
          by_cases z2 : i = j
          · rw [if_neg (show ¬ j + 1 ≤ i by omega), if_pos z2, if_pos (show j ≤ i by omega), z2]
          · rw [if_neg z2]
            by_cases z3 : j ≤ i
            · rw [if_pos z3, if_pos (by omega)]
            · rw [if_neg z3, if_neg (by omega)]
theorem putBack_t {k : Nat} {p : Nat × Nat} {l sp : List Nat} {h : am_H} {R : Nat → List Nat} (hk : k < n) (hn : n ≤ 12) (U : UA h n fo la l sp R) (hp : R k = [p.1, p.2]) (hl : ∀ x ∈ l, x < 1000) (h3 : ∀ i, i < n → ∀ x ∈ R i, x < 1000) (h4 : ∀ i, i < n → (exL k p (R i)).length ≤ 24) (h5 : (exL k p l).length ≤ 24) :
    ∃ h' sp' R', F_X5_putBack 30 (nI k) h = some h' ∧ UA h' n fo la (exL k p l) sp' R' ∧ Fr inU h h' ∧ (∀ i, i < n → R' i = if i = k then [] else exL k p (R i)) := by
  obtain ⟨h1, sp1, e1, r1, r2, G1⟩ := expand_t (a := 31) (by omega) (by omega) hl (U.ex h (by omega) hp U.2.1) h5
  have U1 : UA h1 n fo la (exL k p l) sp1 R := by
    obtain ⟨g, hg, hg2⟩ := U.2.2.2.1
    exact ⟨(obj_at (G1.2.2 _ (by omega))).trans U.1, r1, r2, ⟨g, (ra_at (G1.2.2 _ (by omega))).trans hg, hg2⟩, fun i hi => (U.2.2.2.2 i hi).fr G1 (by omega) (by omega)⟩
  obtain ⟨h', sp', R', e, U', G, g⟩ := put_loop (p := p) hk hn am_F n 0 h1 sp1 R U1 hp (by omega) (by show _ < 100000; omega) h3 (fun i _ hi => h4 i hi)
  refine ⟨h', sp', R', ?_, U', (G1.mono (T := inU) (fun q z => by unfold inU; omega)).tr G (fun _ z => z) (fun _ z => z), fun i hi => by rw [g i hi, if_pos (Nat.zero_le i)]⟩
  unfold F_X5_putBack F_X5_putBack_b
  rw [U.1, Option.bind_some, U.gr.1, Option.bind_some, e1, Option.bind_some]
  exact e
/-! the class cleans -/
theorem stN_cong {n k : Nat} {l : List Nat} {R R' : Nat → List Nat} (h : ∀ j, j < n → R j = R' j) : stN n k l R = stN n k l R' := by
  unfold stN
  rw [sumN_cong n (fun i hi => by rw [h i hi])]
theorem clean_loop {N : Nat} {P : sP} (hn : n ≤ 12) (hN : N ≤ 24) (hP : PO N n P) : ∀ (q k : Nat) (s : sC) (h : am_H) (sp : List Nat) (R : Nat → List Nat), UA h n fo la s.1 sp R → (∀ j, j < n → R j = s.2 j) → CI N n P k s → k ≤ n → k < q →
    ∃ h' sp' R', F_X5_squeeze_97 q 30 (nI k - 1) h = some h' ∧ UA h' n fo la (cln P n k s).1 sp' R' ∧ Fr inU h h' ∧ (∀ j, j < n → R' j = (cln P n k s).2 j)
  | 0, k, s, h, sp, R, U, hR, C, hk, h2 => by omega
  | q + 1, 0, s, h, sp, R, U, hR, C, hk, h2 => by
    rw [F_X5_squeeze_97, if_pos m1_lt]
    exact ⟨h, sp, R, rfl, U, Fr.rf, hR⟩
  | q + 1, k + 1, s, h, sp, R, U, hR, C, hk, h2 => by
    obtain ⟨C1, C2⟩ := CI_step hP (by omega) C
    have hl1 : ∀ x ∈ s.1, x < 1000 := fun x hx => by have := C.1.1 x hx; omega
    have hR1 : ∀ j, j < n → ∀ x ∈ R j, x < 1000 := fun j hj x hx => by rw [hR j hj] at hx; have := (C.2.1 j hj).1 x hx; omega
    rw [F_X5_squeeze_97, pre_nI, if_neg (nI_pos (by omega)), show (16 : Int32) = nI 16 from rfl, nI_add, standing_t U (by omega) hn hl1 hR1, Option.bind_some, stN_cong hR]
    unfold F_X5_squeeze_118
    rw [dn_nI]
    have hcl : cln P n (k + 1) s = if stN n k s.1 s.2 < 2 then cln P n k (exL k (P k) s.1, fun j => if j = k then [] else exL k (P k) (s.2 j)) else cln P n k s := rfl
    have hst : stN n k s.1 s.2 ≤ 24 + 12 * 24 := by
      unfold stN
      have a1 : cnL (16 + k) s.1 ≤ 24 := Nat.le_trans (cntN_le _ _) (Nat.le_trans (CI_len C).1 hN)
      have a2 := sumN_le (f := fun j => cnL (16 + k) (s.2 j)) (c := 24) n (fun i hi => Nat.le_trans (cntN_le _ _) (Nat.le_trans ((CI_len C).2 i hi) hN))
      omega
    by_cases c : stN n k s.1 s.2 < 2
    · rw [if_pos c] at hcl
      have hp : R k = [(P k).1, (P k).2] := by rw [hR k (by omega)]; exact C.2.2 k (by omega)
      obtain ⟨h1, sp1, R1, e1, U1, G1, g1⟩ := putBack_t (p := P k) (k := k) (by omega) hn U hp hl1 hR1 (fun i hi => by
        rw [hR i hi]
        by_cases z : i = k
        · rw [z, C.2.2 k (by omega), ex_id]
          · show 2 ≤ 24; omega
          · have := hP k (by omega)
            intro x hx
            rcases List.mem_cons.mp hx with y | y
            · omega
            · rcases List.mem_cons.mp y with y | y
              · omega
              · cases y
        · have := (CI_len C2).2 i hi
          have e9 : (fun j => if j = k then [] else exL k (P k) (s.2 j)) i = exL k (P k) (s.2 i) := if_neg z
          have this : ((fun j => if j = k then [] else exL k (P k) (s.2 j)) i).length ≤ N := this
          rw [e9] at this
          omega) (by have := (CI_len C2).1; have this : (exL k (P k) s.1).length ≤ N := this; omega)
      obtain ⟨h', sp', R', e, U', G, g⟩ := clean_loop hn hN hP q k (exL k (P k) s.1, fun j => if j = k then [] else exL k (P k) (s.2 j)) h1 sp1 R1 U1 (fun j hj => by
        rw [g1 j hj, hR j hj]) C2 (by omega) (by omega)
      refine ⟨h', sp', R', ?_, by rw [hcl]; exact U', G1.tr G (fun _ z => z) (fun _ z => z), by rw [hcl]; exact g⟩
      rw [if_neg (show ¬ (2 : Int32) ≤ nI (stN n k s.1 s.2) from nI_ge (b := 2) c (by decide)), e1, Option.bind_some]
      exact e
    · rw [if_neg c] at hcl
      obtain ⟨h', sp', R', e, U', G, g⟩ := clean_loop hn hN hP q k s h sp R U hR C1 (by omega) (by omega)
      refine ⟨h', sp', R', ?_, by rw [hcl]; exact U', G, by rw [hcl]; exact g⟩
      rw [if_pos (show (2 : Int32) ≤ nI (stN n k s.1 s.2) from nI_le (a := 2) (by omega) (by omega))]
      exact e
end UB
