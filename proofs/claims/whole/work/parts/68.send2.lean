/-! send: the reference's side -/
theorem upd_self {f : Nat → Int32} {k : Nat} {x : Int32} : upd f k x k = x := by unfold upd; rw [if_pos rfl]
theorem upd_ne {f : Nat → Int32} {k j : Nat} {x : Int32} (h : j ≠ k) : upd f k x j = f j := by unfold upd; rw [if_neg h]
theorem upA_self {A : Nat → Nat → Int32} {k j : Nat} {x : Int32} : upA A k j x k = upd (A k) j x := by unfold upA; rw [if_pos rfl]
theorem upA_ne {A : Nat → Nat → Int32} {k j q : Nat} {x : Int32} (h : q ≠ k) : upA A k j x q = A q := by unfold upA; rw [if_neg h]
section SM
variable {X : Fin 87 → am_C} {I : Nat → Int32} {Y : am_H} {S : sS}
theorem RM_A {A A' : Nat → Nat → Int32} (R : RM S I A) (h : ∀ q, q = 1 ∨ q = 40 ∨ (3 ≤ q ∧ q ≤ 12) → A' q = A q) : RM S I A' := RM_keep R ⟨rfl, rfl, rfl, rfl⟩ ⟨h _ (by omega), h _ (by omega), h _ (by omega), h _ (by omega), h _ (by omega), h _ (by omega), h _ (by omega), h _ (by omega), h _ (by omega), h _ (by omega), h _ (by omega)⟩
theorem differ_in {K : Nat → Int32 → Int32 → Int32 → am_H → Option (Int32 × am_H)} (w : WF S) {v u i : Nat} (hv : v < nv S) (hu : u < nv S) (hi : i ≤ rl S v) : ∀ (q k j : Nat) (A : Nat → Nat → Int32), RM S I A → j + k = rl S u + 1 → k < q → (∀ r c, r ≤ rl S v → c ≤ rl S u → (r < i ∨ (r = i ∧ c < j)) → A 41 (9 * r + c) = nI (ds (rw_ S v) (rw_ S u) r c)) →
    ∃ A', F_X9_differ_15 K q 88 (nI v) (nI u) (nI i) (nI j) (md X I A Y) = K 88 (nI v) (nI u) (nI (i + 1)) (md X I A' Y) ∧ RM S I A' ∧ (∀ r c, r ≤ rl S v → c ≤ rl S u → r < i + 1 → A' 41 (9 * r + c) = nI (ds (rw_ S v) (rw_ S u) r c))
  | 0, k, j, A, R, h1, h2, h3 => by omega
  | q + 1, 0, j, A, R, h1, h2, h3 => by
    have hw2 := (w.2.2.2.2 u hu).1
    rw [F_X9_differ_15]
    simp only [md_gr7, Option.bind_some, A7 w R hu, nI_1]
    rw [if_pos (nI_lt (by omega) (by omega))]
    exact ⟨A, rfl, R, fun r c hr hc hz => h3 r c hr hc (by omega)⟩
  | q + 1, k + 1, j, A, R, h1, h2, h3 => by
    have hw := (w.2.2.2.2 v hv).1
    have hw2 := (w.2.2.2.2 u hu).1
    have hn := w.2.2.1.1
    have key : ∀ x, x = nI (ds (rw_ S v) (rw_ S u) i j) → ∃ A', F_X9_differ_147 K (F_X9_differ_15 K q) 88 (nI v) (nI u) (nI i) (nI j) x (md X I A Y) = K 88 (nI v) (nI u) (nI (i + 1)) (md X I A' Y) ∧ RM S I A' ∧ (∀ r c, r ≤ rl S v → c ≤ rl S u → r < i + 1 → A' 41 (9 * r + c) = nI (ds (rw_ S v) (rw_ S u) r c)) := by
      intro x hx
      have e9 : (9 : Int32) * nI i + nI j = nI (9 * i + j) := by rw [lit, nI_mulN, nI_add]
      simp only [F_X9_differ_147, md_gr41, md_is41, Option.bind_some, e9, ix_nI (show 9 * i + j < 81 by omega) (by decide), nI_1]
      refine differ_in (K := K) w hv hu hi q k (j + 1) (upA A 41 (9 * i + j) x) (RM_A R (fun q hq => upA_ne (by omega))) (by omega) (by omega) (fun r c hr hc hz => ?_)
      rw [upA_self]
      by_cases z : r = i ∧ c = j
      · rw [z.1, z.2, upd_self, hx]
      · rw [upd_ne (by omega)]
        exact h3 r c hr hc (by omega)
    rw [F_X9_differ_15]
    simp only [md_gr7, Option.bind_some, A7 w R hu]
    rw [if_neg (nI_nlt (by omega) (by omega))]
    cases i with
    | zero =>
      rw [if_pos (show nI 0 ≤ 0 by decide), nI_add]
      exact key _ (by rw [ds_0, Nat.zero_add])
    | succ i =>
      rw [if_neg (nI_nle (by omega) (by omega))]
      cases j with
      | zero =>
        rw [if_pos (show nI 0 ≤ 0 by decide), nI_add]
        exact key _ (by rw [ds_00])
      | succ j =>
        have hi2 : i < rl S v := by omega
        have hj2 : j < rl S u := by omega
        have e1 : (9 : Int32) * nI i + nI (j + 1) = nI (9 * i + j + 1) := by rw [lit, nI_mulN, nI_add]; rfl
        have e2 : (9 : Int32) * nI (i + 1) + nI (j + 1) = nI (9 * (i + 1) + j + 1) := by rw [lit, nI_mulN, nI_add]; rfl
        have d1 : A 41 (9 * i + j + 1) = nI (ds (rw_ S v) (rw_ S u) i (j + 1)) := h3 i (j + 1) (by omega) (by omega) (by omega)
        have d2 := h3 (i + 1) j (by omega) (by omega) (by omega)
        have d3 := h3 i j (by omega) (by omega) (by omega)
        have l1 := ds_lc (a := rw_ S v) (b := rw_ S u) _ i (j + 1) rfl
        have l2 := ds_lc (a := rw_ S v) (b := rw_ S u) _ (i + 1) j rfl
        have l3 := ds_lc (a := rw_ S v) (b := rw_ S u) _ i j rfl
        have b1 := hw.2 i hi2
        have b2 := hw2.2 j hj2
        rw [if_neg (nI_nle (by omega) (by omega))]
        simp only [md_gr41, md_il41, Option.bind_some, pre_nI, e1, e2, ix_nI (show 9 * i + j + 1 < 81 by omega) (by decide), ix_nI (show 9 * (i + 1) + j < 81 by omega) (by decide), d1, d2, nI_1]
        have key2 : ∀ m, m = (if ds (rw_ S v) (rw_ S u) (i + 1) j + 1 ≤ ds (rw_ S v) (rw_ S u) i (j + 1) + 1 then ds (rw_ S v) (rw_ S u) (i + 1) j + 1 else ds (rw_ S v) (rw_ S u) i (j + 1) + 1) → m ≤ 100 → ∃ A', F_X9_differ_91 K (F_X9_differ_15 K q) 88 (nI v) (nI u) (nI (i + 1)) (nI (j + 1)) (nI m) (md X I A Y) = K 88 (nI v) (nI u) (nI (i + 1 + 1)) (md X I A' Y) ∧ RM S I A' ∧ (∀ r c, r ≤ rl S v → c ≤ rl S u → r < i + 1 + 1 → A' 41 (9 * r + c) = nI (ds (rw_ S v) (rw_ S u) r c)) := by
          intro m hm hm2
          simp only [F_X9_differ_91, F_X9_differ_143, F_X9_differ_145, md_gr41, md_il41, Option.bind_some, pre_nI, e1, ix_nI (show 9 * i + j < 81 by omega) (by decide), d3, A8 w R hv hi2, A8 w R hu hj2, nI_eq (show rw_ S v i < 2 ^ 31 by omega) (show rw_ S u j < 2 ^ 31 by omega), nI_leI (show m < 2 ^ 31 by omega) (show ds (rw_ S v) (rw_ S u) i j < 2 ^ 31 by omega)]
          by_cases c1 : rw_ S v i = rw_ S u j
          · rw [if_pos c1]
            by_cases c2 : m ≤ ds (rw_ S v) (rw_ S u) i j
            · rw [if_pos c2]
              exact key _ (by rw [ds_s, ← hm, if_neg (by omega)])
            · rw [if_neg c2]
              exact key _ (by rw [ds_s, ← hm, if_pos ⟨c1, by omega⟩])
          · rw [if_neg c1]
            exact key _ (by rw [ds_s, ← hm, if_neg (fun z => c1 z.1)])
        by_cases c3 : ds (rw_ S v) (rw_ S u) (i + 1) j + 1 ≤ ds (rw_ S v) (rw_ S u) i (j + 1) + 1
        · rw [if_pos (nI_le c3 (by omega))]
          exact key2 _ (by rw [if_pos c3]) (by omega)
        · rw [if_neg (nI_ge (by omega) (by omega))]
          exact key2 _ (by rw [if_neg c3]) (by omega)
theorem differ_out (w : WF S) {v u : Nat} (hv : v < nv S) (hu : u < nv S) : ∀ (q k i : Nat) (A : Nat → Nat → Int32), RM S I A → i + k = rl S v + 1 → k < q → (∀ r c, r ≤ rl S v → c ≤ rl S u → r < i → A 41 (9 * r + c) = nI (ds (rw_ S v) (rw_ S u) r c)) →
    ∃ A', F_X9_differ_2 q 88 (nI v) (nI u) (nI i) (md X I A Y) = some (nI (ds (rw_ S v) (rw_ S u) (rl S v) (rl S u)), md X I A' Y) ∧ RM S I A'
  | 0, k, i, A, R, h1, h2, h3 => by omega
  | q + 1, 0, i, A, R, h1, h2, h3 => by
    have hw := (w.2.2.2.2 v hv).1
    have hw2 := (w.2.2.2.2 u hu).1
    have e9 : (9 : Int32) * nI (rl S v) + nI (rl S u) = nI (9 * rl S v + rl S u) := by rw [lit, nI_mulN, nI_add]
    rw [F_X9_differ_2]
    simp only [md_gr7, md_gr41, md_il41, Option.bind_some, A7 w R hv, A7 w R hu, e9, ix_nI (show 9 * rl S v + rl S u < 81 by omega) (by decide), h3 (rl S v) (rl S u) (by omega) (by omega) (by omega)]
    rw [if_pos (nI_lt (by omega) (by omega))]
    exact ⟨A, rfl, R⟩
  | q + 1, k + 1, i, A, R, h1, h2, h3 => by
    have hw := (w.2.2.2.2 v hv).1
    have hw2 := (w.2.2.2.2 u hu).1
    rw [F_X9_differ_2]
    simp only [md_gr7, Option.bind_some, A7 w R hv]
    rw [if_neg (nI_nlt (by omega) (by omega))]
    obtain ⟨A', e, R', h4⟩ := differ_in (X := X) (Y := Y) (K := F_X9_differ_2 q) w hv hu (show i ≤ rl S v by omega) am_F (rl S u + 1) 0 A R (by omega) (by show _ < 100000; omega) (fun r c hr hc hz => h3 r c hr hc (by omega))
    obtain ⟨A2, e2, R2⟩ := differ_out w hv hu q k (i + 1) A' R' (by omega) (by omega) h4
    exact ⟨A2, e.trans e2, R2⟩
theorem send_in {A : Nat → Nat → Int32} {K : Nat → Int32 → Int32 → Int32 → Int32 → Int32 → Int32 → am_H → Option (Int32 × am_H)} (w : WF S) (R : RM S I A) {v u i s t : Nat} {v1 v3 : Int32} (hu : u < nv S) (hi : i < rl S u) : ∀ (q k j : Nat), j + k = i → k < q →
    F_X9_send_75 K q 88 v1 (nI u) v3 (nI s) (nI t) (nI i) (nI (rw_ S u i)) (bI (hasB S v (rw_ S u i) || anyN (fun q => rw_ S u q == rw_ S u i) j)) (nI j) (md X I A Y) = K 88 v1 (nI u) v3 (nI (s + if goesB S v u i = true then 4 * ln S (rw_ S u i) + 3 else 4)) (nI (t + bN (goesB S v u i))) (nI (i + 1)) (md X I A Y)
  | 0, k, j, h1, h2 => by omega
  | q + 1, 0, j, h1, h2 => by
    have hw2 := (w.2.2.2.2 u hu).1
    have e : j = i := by omega
    subst e
    rw [F_X9_send_75, if_pos (nI_le (by omega) (by omega))]
    have hg : goesB S v u j = !(hasB S v (rw_ S u j) || anyN (fun q => rw_ S u q == rw_ S u j) j) := by
      unfold goesB
      rw [Bool.not_or]
    rw [hg]
    simp only [bI_0, md_gr3, Option.bind_some, A3 w R (hw2.2 j hi), F_X9_send_134, F_X9_send_149, one_spec, nI_1]
    cases (hasB S v (rw_ S u j) || anyN (fun q => rw_ S u q == rw_ S u j) j) with
    | true =>
      rw [if_neg (by decide), if_neg (by decide), show (4 : Int32) = nI 4 from rfl, oneI_z, nI_add, nI_add]
      rfl
    | false =>
      rw [if_pos rfl, if_pos rfl, show (4 : Int32) * nI (ln S (rw_ S u j)) + 3 = nI (4 * ln S (rw_ S u j) + 3) by rw [lit, nI_mulN, lit, nI_add], oneI_1, nI_add, nI_add]
      rfl
  | q + 1, k + 1, j, h1, h2 => by
    have hw2 := (w.2.2.2.2 u hu).1
    have hn := w.2.2.1.1
    have b1 := hw2.2 i hi
    have b2 := hw2.2 j (by omega)
    have ih := send_in (v := v) (s := s) (t := t) (v1 := v1) (v3 := v3) (K := K) w R hu hi q k (j + 1) (by omega) (by omega)
    rw [show anyN (fun q => rw_ S u q == rw_ S u i) (j + 1) = (anyN (fun q => rw_ S u q == rw_ S u i) j || (rw_ S u j == rw_ S u i)) from rfl, ← Bool.or_assoc] at ih
    rw [F_X9_send_75, if_neg (nI_ge (by omega) (by omega))]
    simp only [bI_0, A8 w R hu (show j < rl S u by omega), Option.bind_some, nI_eq (show rw_ S u j < 2 ^ 31 by omega) (show rw_ S u i < 2 ^ 31 by omega), F_X9_send_99, F_X9_send_104, nI_1]
    cases hc : (hasB S v (rw_ S u i) || anyN (fun q => rw_ S u q == rw_ S u i) j) with
    | true =>
      rw [hc, Bool.true_or] at ih
      rw [if_neg (by decide)]
      exact ih
    | false =>
      rw [hc, Bool.false_or] at ih
      rw [if_pos rfl]
      by_cases he : rw_ S u j = rw_ S u i
      · rw [if_pos he]
        rw [show (rw_ S u j == rw_ S u i) = true by simpa using he] at ih
        exact ih
      · rw [if_neg he]
        rw [show (rw_ S u j == rw_ S u i) = false by simpa using he] at ih
        exact ih
theorem send_out {A : Nat → Nat → Int32} (w : WF S) (R : RM S I A) {v u : Nat} {x : Int32} (hv : v < nv S) (hu : u < nv S) (hx : x = 0 ∨ x = 1 ∨ x = 2) : ∀ (q k i : Nat), i + k = rl S u → k < q →
    ∃ A', F_X9_send_43 q 88 (nI v) (nI u) x (nI (sumN (fun i => if goesB S v u i = true then 4 * ln S (rw_ S u i) + 3 else 4) i)) (nI (cntN (goesB S v u) i)) (nI i) (md X I A Y) = some (sp_send S (nI v) (nI u) x, md X I A' Y) ∧ RM S I A'
  | 0, k, i, h1, h2 => by omega
  | q + 1, 0, i, h1, h2 => by
    have hw := (w.2.2.2.2 v hv).1
    have hw2 := (w.2.2.2.2 u hu).1
    have hn2 := w.2.2.2.1
    have e : i = rl S u := by omega
    subst e
    rw [F_X9_send_43]
    simp only [md_gr7, Option.bind_some, A7 w R hu, F_X9_send_186]
    rw [if_pos (nI_le (by omega) (by omega))]
    unfold sp_send
    rw [if_pos (show vd (nv S) (nI v) ∧ vd (nv S) (nI u) from ⟨vd_nI hv (by omega), vd_nI hu (by omega)⟩), cl_nI (by omega), cl_nI (by omega)]
    by_cases c0 : x = 0
    · rw [if_pos c0, if_pos c0]
      exact ⟨A, rfl, R⟩
    · rw [if_neg c0, if_neg c0]
      by_cases c1 : x = 1
      · rw [if_pos c1, if_pos c1]
        exact ⟨A, rfl, R⟩
      · rw [if_neg c1, if_neg c1, if_pos (by rcases hx with h | h | h; exact absurd h c0; exact absurd h c1; exact h)]
        obtain ⟨A', e, R'⟩ := differ_out (X := X) (Y := Y) w hv hu am_F (rl S v + 1) 0 A R (by omega) (by show _ < 100000; omega) (fun r c hr hc hz => by omega)
        refine ⟨A', ?_, R'⟩
        simp only [F_X9_differ, F_X9_differ_b, md_obj, Option.bind_some]
        rw [show (0 : Int32) = nI 0 from rfl, e]
        rfl
  | q + 1, k + 1, i, h1, h2 => by
    have hw2 := (w.2.2.2.2 u hu).1
    have hn := w.2.2.1.1
    have hi : i < rl S u := by omega
    have b1 := hw2.2 i hi
    rw [F_X9_send_43]
    simp only [md_gr7, Option.bind_some, A7 w R hu]
    rw [if_neg (nI_ge (by omega) (by omega))]
    simp only [A8 w R hu hi, Option.bind_some, has_spec w R hv (show rw_ S u i < 200 by omega)]
    have e := send_in (X := X) (Y := Y) (v := v) (s := sumN (fun i => if goesB S v u i = true then 4 * ln S (rw_ S u i) + 3 else 4) i) (t := cntN (goesB S v u) i) (v1 := nI v) (v3 := x) (K := F_X9_send_43 q) w R hu hi am_F i 0 (by omega) (by show _ < 100000; omega)
    rw [show anyN (fun q => rw_ S u q == rw_ S u i) 0 = false from rfl, Bool.or_false] at e
    obtain ⟨A', e2, R'⟩ := send_out w R hv hu hx q k (i + 1) (by omega) (by omega)
    exact ⟨A', e.trans e2, R'⟩
theorem m_send {A : Nat → Nat → Int32} (w : WF S) (R : RM S I A) (v u x : Int32) : ∃ I' A', F_X9_send 88 v u x (md X I A Y) = some (sp_send S v u x, md X I' A' Y) ∧ RM S I' A' := by
  by_cases hv : vd (nv S) v
  · obtain ⟨k, hk, rfl⟩ := nI_of_toInt hv.1 hv.2
    by_cases hu : vd (nv S) u
    · obtain ⟨j, hj, rfl⟩ := nI_of_toInt hu.1 hu.2
      have hw2 := (w.2.2.2.2 j hj).1
      have hn := w.2.2.2.1
      simp only [F_X9_send, F_X9_send_b, md_obj, Option.bind_some, noV_t w R hv, noV_t w R hu, if_true, in_spec, Int32.toInt_toInt64]
      rw [show (0 : Int64).toInt = 0 from rfl, show (2 : Int64).toInt = 2 from rfl]
      by_cases hx : 0 ≤ x.toInt ∧ x.toInt ≤ 2
      · rw [if_pos hx, if_neg i1ne0]
        obtain ⟨z, hz, rfl⟩ := nI_of_toInt (n := 3) (v := x) hx.1 (by omega)
        have hz2 : nI z = 0 ∨ nI z = 1 ∨ nI z = 2 := by
          match z, hz with
          | 0, _ => exact Or.inl rfl
          | 1, _ => exact Or.inr (Or.inl rfl)
          | 2, _ => exact Or.inr (Or.inr rfl)
        obtain ⟨A', e, R'⟩ := send_out (X := X) (Y := Y) w R hk hj hz2 am_F (rl S j) 0 (by omega) (by show _ < 100000; omega)
        exact ⟨I, A', e, R'⟩
      · rw [if_neg hx, if_pos rfl]
        refine ⟨I, A, ?_, R⟩
        unfold sp_send
        rw [if_pos (show vd (nv S) (nI k) ∧ vd (nv S) (nI j) from ⟨hv, hu⟩)]
        have n0 : ¬ x = 0 := fun q => hx (by rw [q]; decide)
        have n1 : ¬ x = 1 := fun q => hx (by rw [q]; decide)
        have n2 : ¬ x = 2 := fun q => hx (by rw [q]; decide)
        rw [if_neg n0, if_neg n1, if_neg n2]
    · refine ⟨I, A, ?_, R⟩
      unfold sp_send
      rw [if_neg (fun q => hu q.2)]
      simp only [F_X9_send, F_X9_send_b, F_X9_send_16, md_obj, Option.bind_some, noV_t w R hv, noV_f w R hu, if_true, if_neg i1ne0]
  · refine ⟨I, A, ?_, R⟩
    unfold sp_send
    rw [if_neg (fun q => hv q.1)]
    simp only [F_X9_send, F_X9_send_b, F_X9_send_16, md_obj, Option.bind_some, noV_f w R hv, if_neg i1ne0]
end SM
section OPS4
variable {Z : sZ}
theorem o_send : am_op_send (Inv Z) := by
  rintro h a0 a1 a2 ⟨S, pb, pv, X, I, A, Y, w, R, rfl, C, hn⟩
  obtain ⟨h1, e, F, C'⟩ := x_send w C a0 a1 a2
  obtain ⟨h2, e2, hI⟩ := Inv.fin (f := F_X9_send 88 a0 a1 a2) (r := sp_send S a0 a1 a2) w (fun q q1 q2 => F.2.2 q (by omega)) C' (by rw [F.2.1]; exact hn) (fun X Y => m_send w R a0 a1 a2)
  exact ⟨_, h1, h2, e, e2, hI⟩
end OPS4
