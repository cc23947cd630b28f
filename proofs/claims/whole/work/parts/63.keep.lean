/-! what a call leaves as it was -/
theorem bRow {P : Nat → Prop} {h h' : am_H} {a cap : Nat} (r : ∃ n f, RowAt h a cap n f) (F : Fr P h h') (h1 : ¬ P a) (h2 : ¬ P (a + 1)) : ∃ n f, RowAt h' a cap n f := by
  obtain ⟨n, f, r⟩ := r
  exact ⟨n, f, r.fr F h1 h2⟩
theorem bIa {P : Nat → Prop} {h h' : am_H} {a N : Nat} (r : ∃ f, am_ia 0 a h = some (N, f)) (F : Fr P h h') (h1 : ¬ P a) : ∃ f, am_ia 0 a h' = some (N, f) := by
  obtain ⟨f, r⟩ := r
  exact ⟨f, (ia_at (F.2.2 _ h1)).trans r⟩
section KP
variable {P : Nat → Prop} {Z : sZ} {S : sS} {pb pv : Nat → Nat} {h h' : am_H}
theorem BlkAt.fr {a n : Nat} {s : Nat → Nat} {t : Bool} (B : BlkAt Z h a n s t) (F : Fr P h h') (hp : ∀ q, a ≤ q → q < a + 7 → ¬ P q) : BlkAt Z h' a n s t := by
  obtain ⟨b1, ⟨f, r1, r2⟩, m, f1, g1, ⟨r3, r4⟩, r5⟩ := B
  exact ⟨(obj_at (F.2.2 _ (hp a (by omega) (by omega)))).trans b1, ⟨f, r1.fr F (hp _ (by omega) (by omega)) (hp _ (by omega) (by omega)), r2⟩, m, f1, g1, ⟨r3.fr F (hp _ (by omega) (by omega)) (hp _ (by omega) (by omega)), r4.fr F (hp _ (by omega) (by omega)) (hp _ (by omega) (by omega))⟩, r5⟩
theorem VerAt.fr {a n : Nat} {w : Nat → Nat} {p : Int32} {c l : Nat} {x y : Nat → Nat} (V : VerAt h a n w p c l x y) (F : Fr P h h') (hp : ∀ q, a ≤ q → q < a + 7 → ¬ P q) : VerAt h' a n w p c l x y := by
  obtain ⟨b1, ⟨f, r1, r2⟩, ⟨f1, r3, r4⟩, ⟨f2, r5, r6⟩⟩ := V
  exact ⟨(obj_at (F.2.2 _ (hp a (by omega) (by omega)))).trans b1, ⟨f, r1.fr F (hp _ (by omega) (by omega)) (hp _ (by omega) (by omega)), r2⟩, ⟨f1, r3.fr F (hp _ (by omega) (by omega)) (hp _ (by omega) (by omega)), r4⟩, ⟨f2, r5.fr F (hp _ (by omega) (by omega)) (hp _ (by omega) (by omega)), r6⟩⟩
theorem Scr.fr (C : Scr h) (F : Fr P h h') (hp : ∀ q, 8 ≤ q → q < 88 → ¬ P q) : Scr h' := by
  obtain ⟨c1, c2, c3, ⟨T, c4, c5⟩, ⟨m1, m2, m3, m4, m5⟩, ⟨⟨a, b, c, u1⟩, u2, ⟨gg, u3, u4⟩, u5⟩, ⟨⟨a', b', c', o1⟩, o2, o3⟩, ⟨⟨ta, t1⟩, t2, t3, t4, t5⟩, ⟨⟨ca, cb, k1⟩, k2, k3, ⟨TC, k4⟩, k6⟩⟩ := C
  have hq : ∀ q, 8 ≤ q → q < 88 → am_at h' q = am_at h q := fun q h1 h2 => F.2.2 q (hp q h1 h2)
  refine ⟨bRow c1 F (hp _ (by decide) (by decide)) (hp _ (by decide) (by decide)), bRow c2 F (hp _ (by decide) (by decide)) (hp _ (by decide) (by decide)), bRow c3 F (hp _ (by decide) (by decide)) (hp _ (by decide) (by decide)), ⟨T, c4.fr F (fun q q1 q2 => hp q (by omega) (by omega)), c5⟩, ⟨(obj_at (hq _ (by decide) (by decide))).trans m1, bIa m2 F (hp _ (by decide) (by decide)), bIa m3 F (hp _ (by decide) (by decide)), bIa m4 F (hp _ (by decide) (by decide)), bRow m5 F (hp _ (by decide) (by decide)) (hp _ (by decide) (by decide))⟩, ⟨⟨a, b, c, (obj_at (hq _ (by decide) (by decide))).trans u1⟩, bRow u2 F (hp _ (by decide) (by decide)) (hp _ (by decide) (by decide)), ⟨gg, (ra_at (hq _ (by decide) (by decide))).trans u3, fun k hk => ⟨(u4 k hk).1, bRow (u4 k hk).2 F (hp _ (by omega) (by omega)) (hp _ (by omega) (by omega))⟩⟩, bRow u5 F (hp _ (by decide) (by decide)) (hp _ (by decide) (by decide))⟩, ⟨⟨a', b', c', (obj_at (hq _ (by decide) (by decide))).trans o1⟩, bIa o2 F (hp _ (by decide) (by decide)), bRow o3 F (hp _ (by decide) (by decide)) (hp _ (by decide) (by decide))⟩, ⟨⟨ta, (obj_at (hq _ (by decide) (by decide))).trans t1⟩, bIa t2 F (hp _ (by decide) (by decide)), bIa t3 F (hp _ (by decide) (by decide)), bRow t4 F (hp _ (by decide) (by decide)) (hp _ (by decide) (by decide)), bRow t5 F (hp _ (by decide) (by decide)) (hp _ (by decide) (by decide))⟩, ⟨⟨ca, cb, (obj_at (hq _ (by decide) (by decide))).trans k1⟩, bRow k2 F (hp _ (by decide) (by decide)) (hp _ (by decide) (by decide)), bRow k3 F (hp _ (by decide) (by decide)) (hp _ (by decide) (by decide)), ⟨TC, k4.fr F (fun q q1 q2 => hp q (by omega) (by omega))⟩, bRow k6 F (hp _ (by decide) (by decide)) (hp _ (by decide) (by decide))⟩⟩
/-- all but the draft and the pattern -/
theorem RX.keep (C : RX Z S pb pv h) (F : Fr P h h') (h1 : ¬ P 1) (h6 : ¬ P 6) (h7 : ¬ P 7) (hs : ∀ q, 8 ≤ q → q < 88 → ¬ P q) (hd : ∀ q, 116 ≤ q → ¬ P q) : (∃ pn, am_obj 1 8 h' = some (xfs S pn)) ∧ (∃ f, am_ra 2 6 h' = some (200, f) ∧ ∀ b, b < nb S → f b = rD (pb b)) ∧ (∃ f, am_ra 3 7 h' = some (30, f) ∧ ∀ v, v < nv S → f v = rD (pv v)) ∧
  (∀ b, b < nb S → BlkAt Z h' (rD (pb b)) (ln S b) (sg S b) (tn S b)) ∧ (∀ v, v < nv S → VerAt h' (rD (pv v)) (rl S v) (rw_ S v) (pr S v) (fr S v) (plc S v) (s1 S v) (s2 S v)) ∧ Scr h' ∧ h'.length = 115 + 7 * (nb S + nv S) := by
  obtain ⟨⟨pn, c1⟩, c2, c3, ⟨f4, c4, d4⟩, ⟨f5, c5, d5⟩, c6, c7, c8, c9, c10⟩ := C
  exact ⟨⟨pn, (obj_at (F.2.2 _ h1)).trans c1⟩, ⟨f4, (ra_at (F.2.2 _ h6)).trans c4, d4⟩, ⟨f5, (ra_at (F.2.2 _ h7)).trans c5, d5⟩, fun b hb => (c6 b hb).fr F (fun q q1 _ => hd q (by unfold rD at q1; omega)), fun v hv => (c7 v hv).fr F (fun q q1 _ => hd q (by unfold rD at q1; omega)), c8.fr F hs, F.1.trans c10⟩
theorem RX.all (C : RX Z S pb pv h) (F : Fr P h h') (hs : ∀ q, q < 88 → ¬ P q) (hd : ∀ q, 116 ≤ q → ¬ P q) : RX Z S pb pv h' := by
  have K := C.keep F (hs _ (by decide)) (hs _ (by decide)) (hs _ (by decide)) (fun q _ q2 => hs q q2) hd
  obtain ⟨f2, c2, d2⟩ := C.2.1
  obtain ⟨f3, c3, d3⟩ := C.2.2.1
  exact ⟨K.1, ⟨f2, c2.fr F (hs _ (by decide)) (hs _ (by decide)), d2⟩, ⟨f3, c3.fr F (hs _ (by decide)) (hs _ (by decide)), d3⟩, K.2.1, K.2.2.1, K.2.2.2.1, K.2.2.2.2.1, K.2.2.2.2.2.1, C.2.2.2.2.2.2.2.2.1, K.2.2.2.2.2.2⟩
end KP
/-! the two sides in one heap -/
theorem md_len {X : Fin 87 → am_C} {I : Nat → Int32} {A : Nat → Nat → Int32} {Y : am_H} : (md X I A Y).length = 115 + Y.length := by
  simp [md, md_as]
  omega
theorem md_out {X : Fin 87 → am_C} {I I' : Nat → Int32} {A A' : Nat → Nat → Int32} {Y : am_H} : Fr (fun r => 88 ≤ r ∧ r < 116) (md X I A Y) (md X I' A' Y) := by
  refine ⟨by rw [md_len, md_len], ?_, fun r hr => ?_⟩
  · simp only [md, am_n_app]
    congr 1
  · cases r with
    | zero => rfl
    | succ r =>
      show (md X I' A' Y)[r]? = (md X I A Y)[r]?
      unfold md
      by_cases h1 : r < 87
      · simp only [List.append_assoc]
        have hX : r < (List.ofFn X).length := by rw [List.length_ofFn]; exact h1
        rw [List.getElem?_append_left hX, List.getElem?_append_left hX]
      · rw [List.getElem?_append_right (by simp [md_as]; omega), List.getElem?_append_right (by simp [md_as]; omega)]
        simp [md_as]
theorem md_in {X : Fin 87 → am_C} {I : Nat → Int32} {A : Nat → Nat → Int32} {Y h' : am_H} (hl : 115 ≤ h'.length) (hr : ∀ r, 88 ≤ r → r < 116 → am_at h' r = am_at (md X I A Y) r) : ∃ X' Y', h' = md X' I A Y' := by
  refine ⟨fun i => h'[i.val]'(by omega), h'.drop 115, ?_⟩
  apply List.ext_getElem?
  intro r
  unfold md
  by_cases h1 : r < 87
  · rw [List.getElem?_append_left (by simp [md_as]; omega), List.getElem?_append_left (by rw [List.length_ofFn]; exact h1), List.getElem?_ofFn, dif_pos h1, List.getElem?_eq_getElem (by omega)]
  · by_cases h2 : r < 115
    · have := hr (r + 1) (by omega) (by omega)
      rw [show r + 1 = 88 + (r - 87) by omega, md_at (by omega)] at this
      rw [show 88 + (r - 87) = r + 1 by omega] at this
      rw [List.getElem?_append_left (by simp [md_as]; omega), List.getElem?_append_right (by simp; omega), List.length_ofFn]
      exact this
    · rw [List.getElem?_append_right (by simp [md_as]; omega), List.getElem?_drop]
      congr 1
      simp [md_as]
      omega
/-- the invariant of the law's loop -/
def Inv (Z : sZ) (h : am_H) : Prop := ∃ (S : sS) (pb pv : Nat → Nat) (X : Fin 87 → am_C) (I : Nat → Int32) (A : Nat → Nat → Int32) (Y : am_H), WF S ∧ RM S I A ∧ h = md X I A Y ∧ RX Z S pb pv h ∧ am_n h ≤ 60000 + 200 * (nb S + nv S)
section OPS
variable {Z : sZ}
theorem o_about : am_op_about (Inv Z) := by
  rintro h a0 a1 ⟨S, pb, pv, X, I, A, Y, w, R, rfl, C, -⟩
  exact ⟨_, x_about w C a0 a1, m_about w R a0 a1⟩
theorem o_block : am_op_block (Inv Z) := by
  rintro h a0 a1 ⟨S, pb, pv, X, I, A, Y, w, R, rfl, C, -⟩
  exact ⟨_, x_block w C a0 a1, m_block w R a0 a1⟩
theorem o_told : am_op_told (Inv Z) := by
  rintro h a0 a1 ⟨S, pb, pv, X, I, A, Y, w, R, rfl, C, -⟩
  exact ⟨_, x_told w C a0 a1, m_told w R a0 a1⟩
theorem o_count : am_op_count (Inv Z) := by
  rintro h a0 ⟨S, pb, pv, X, I, A, Y, w, R, rfl, C, -⟩
  exact ⟨_, x_count w C a0, m_count w R a0⟩
theorem o_share : am_op_share (Inv Z) := by
  rintro h a0 a1 ⟨S, pb, pv, X, I, A, Y, w, R, rfl, C, -⟩
  exact ⟨_, x_share w C a0 a1, m_share w R a0 a1⟩
theorem o_sums : am_op_sums (Inv Z) := by
  rintro h a0 a1 a2 ⟨S, pb, pv, X, I, A, Y, w, R, rfl, C, -⟩
  exact ⟨_, x_sums w C a0 a1 a2, m_sums w R a0 a1 a2⟩
/-- the reference's part has moved -/
theorem Inv.moved {S : sS} {pb pv : Nat → Nat} {X : Fin 87 → am_C} {I I' : Nat → Int32} {A A' : Nat → Nat → Int32} {Y : am_H} (w : WF S) (R : RM S I' A') (C : RX Z S pb pv (md X I A Y)) (hn : am_n (md X I A Y) ≤ 60000 + 200 * (nb S + nv S)) : Inv Z (md X I' A' Y) := by
  have F : Fr (fun r => 88 ≤ r ∧ r < 116) (md X I A Y) (md X I' A' Y) := md_out
  exact ⟨S, pb, pv, X, I', A', Y, w, R, rfl, C.all F (fun q h1 h2 => by omega) (fun q h1 h2 => by omega), by rw [F.2.1]; exact hn⟩
theorem o_open : am_op_open (Inv Z) := by
  rintro h a0 a1 ⟨S, pb, pv, X, I, A, Y, w, R, rfl, C, hn⟩
  obtain ⟨I', e, R'⟩ := m_open (X := X) (Y := Y) w R a0 a1
  exact ⟨_, _, x_open w C a0 a1, e, Inv.moved w R' C hn⟩
end OPS
