/-! NEW CELLS behind the heap -/
theorem at_app {h t : am_H} {r : Nat} (hr : 0 < r) : am_at (h ++ t) (h.length + r) = am_at t r := by
  obtain ⟨j, rfl⟩ : ∃ j, r = j + 1 := ⟨r - 1, by omega⟩
  show (h ++ t)[h.length + j]? = t[j]?
  rw [List.getElem?_append_right (by omega), Nat.add_sub_cancel_left]
theorem at_app0 {h t : am_H} {r : Nat} (hr : r ≤ h.length) : am_at (h ++ t) r = am_at h r := by
  cases r with
  | zero => rfl
  | succ j =>
    show (h ++ t)[j]? = h[j]?
    rw [List.getElem?_append_left (by omega)]
theorem obj_app1 {h t : am_H} {r c : Nat} (hr : 0 < r) : am_obj (h.length + r) c (h ++ t) = am_obj r c t := by unfold am_obj; rw [at_app hr]
theorem ia_app1 {h t : am_H} {r c : Nat} (hr : 0 < r) : am_ia c (h.length + r) (h ++ t) = am_ia c r t := by unfold am_ia; rw [at_app hr]
theorem pv_app {h t t' : am_H} {r c k : Nat} {v : Value} (hr : 0 < r) (e : am_pv c k r v t = some t') : am_pv c k (h.length + r) v (h ++ t) = some (h ++ t') := by
  unfold am_pv at e ⊢
  rw [obj_app1 hr]
  cases ho : am_obj r c t with
  | none => rw [ho] at e; cases e
  | some fs =>
    rw [ho] at e
    have e : (if k < fs.length then some (t.set (r - 1) (.inr (.inr (c, fs.set k v)))) else none) = some t' := e
    show (if k < fs.length then some ((h ++ t).set (h.length + r - 1) (.inr (.inr (c, fs.set k v)))) else none) = _
    by_cases hk : k < fs.length
    · rw [if_pos hk] at e ⊢
      rw [List.set_append_right _ _ (by omega), show h.length + r - 1 - h.length = r - 1 by omega]
      exact congrArg (fun o : Option am_H => o.map (h ++ ·)) e
    · rw [if_neg hk] at e; cases e
theorem nw_app {h t : am_H} {c : Nat} : am_nw c (h ++ t) = some (h.length + (t.length + 1), h ++ (t ++ [.inr (.inr (c, am_flds c))])) := by
  unfold am_nw
  rw [List.length_append, List.append_assoc, Nat.add_assoc]
theorem flds0 : am_flds 0 = [.ref 0, .ref 0, .ref 0, .int 0] := rfl
theorem flds4 : am_flds 4 = [.ref 0, .int 0] := rfl
theorem flds7 : am_flds 7 = [.ref 0, .int 0, .int 0, .int 0, .ref 0, .ref 0] := rfl
theorem nn_nI {n : Nat} (hn : n ≤ 100000) : am_nn (nI n) = some n := by
  unfold am_nn
  rw [nI_clamp (by omega), if_pos ⟨nI_pos' (by omega), hn⟩]
theorem row_init {h t : am_H} {r n : Nat} (hr : 0 < r) (hn : n ≤ 1000) (o : am_obj r 4 t = some [.ref 0, .int 0]) : F_X4_init (h.length + r) (nI n) (h ++ t) = some (h ++ (t.set (r - 1) (.inr (.inr (4, [.ref (h.length + (t.length + 1)), .int (nI 0)]))) ++ [.inl (0, n, fun _ => 0)])) := by
  have hrt : r - 1 < t.length := by
    obtain ⟨j, e, hj⟩ := am_obj_spec o
    have := (List.getElem?_eq_some_iff.mp hj).1
    omega
  have e1 : am_pv 4 1 r (.int 0) t = some (t.set (r - 1) (.inr (.inr (4, [.ref 0, .int 0])))) := by
    unfold am_pv
    rw [o]
    rfl
  have es : ∀ c : am_C, am_obj r 4 (t.set (r - 1) (.inr (.inr (4, [.ref 0, .int 0]))) ++ [c]) = some [.ref 0, .int 0] := fun c => by
    apply obj_of
    rw [at_app0 (by rw [List.length_set]; omega)]
    have := at_set_self (h := t) (k := r - 1) (c := .inr (.inr (4, [.ref 0, .int 0]))) hrt
    rw [show r - 1 + 1 = r by omega] at this
    exact this
  have e2 : am_pv 4 0 r (.ref (h.length + (t.length + 1))) (t.set (r - 1) (.inr (.inr (4, [.ref 0, .int 0]))) ++ [.inl (0, n, fun _ => 0)]) = some (t.set (r - 1) (.inr (.inr (4, [.ref (h.length + (t.length + 1)), .int (nI 0)]))) ++ [.inl (0, n, fun _ => 0)]) := by
    unfold am_pv
    rw [es, Option.bind_some, if_pos (by show 0 < 2; omega), List.set_append_left _ _ (by rw [List.length_set]; exact hrt), List.set_set]
    rfl
  unfold F_X4_init F_X4_init_b
  rw [obj_app1 hr, o, Option.bind_some, Option.bind_some]
  unfold am_pi
  rw [pv_app hr e1, Option.bind_some, show (0 : Int32) = nI 0 from rfl, jmax (by omega) (by omega), Option.bind_some, show (if 0 < n then n else 0) = n by split <;> omega]
  unfold am_ni
  rw [nn_nI (by omega), Option.bind_some, Option.bind_some]
  unfold am_pr
  show (am_pv 4 0 (h.length + r) (.ref ((h ++ t.set (r - 1) _).length + 1)) ((h ++ t.set (r - 1) _) ++ [_])).bind _ = _
  rw [List.length_append, List.length_set, List.append_assoc, Nat.add_assoc]
  exact congrArg (fun o : Option am_H => o.bind fun h5 => some h5) (pv_app (h := h) hr e2)
theorem row_of {h t : am_H} {r n : Nat} (hr : 0 < r) (o : am_obj r 4 t = some [.ref (h.length + r + 1), .int (nI 0)]) (i : am_ia 0 (r + 1) t = some (n, fun _ => 0)) (hn : n < 100000) : RowAt (h ++ t) (h.length + r) n 0 (fun _ => 0) :=
  ⟨⟨(obj_app1 hr).trans o, (ia_app1 (r := r + 1) (by omega)).trans i⟩, Nat.zero_le _, hn⟩
/-! what was there stays -/
theorem obj_app {h t : am_H} {a c : Nat} {fs : List Value} (o : am_obj a c h = some fs) : am_obj a c (h ++ t) = some fs := by
  obtain ⟨j, rfl, hj⟩ := am_obj_spec o
  have := (List.getElem?_eq_some_iff.mp hj).1
  exact (obj_at (at_app0 (by omega))).trans o
theorem ia_app {h t : am_H} {a c N : Nat} {f : Nat → Int32} (o : am_ia c a h = some (N, f)) : am_ia c a (h ++ t) = some (N, f) := by
  obtain ⟨j, rfl, hj⟩ := am_ia_spec o
  have := (List.getElem?_eq_some_iff.mp hj).1
  exact (ia_at (at_app0 (by omega))).trans o
theorem ra_app {h t : am_H} {a c N : Nat} {f : Nat → Nat} (o : am_ra c a h = some (N, f)) : am_ra c a (h ++ t) = some (N, f) := by
  obtain ⟨j, rfl, hj⟩ := am_ra_spec o
  have := (List.getElem?_eq_some_iff.mp hj).1
  exact (ra_at (at_app0 (by omega))).trans o
theorem RowAt.app {h : am_H} {a cap n : Nat} {f : Nat → Int32} (r : RowAt h a cap n f) (t : am_H) : RowAt (h ++ t) a cap n f := ⟨⟨obj_app r.1.1, ia_app r.1.2⟩, r.2⟩
theorem bRowA {h : am_H} {a cap : Nat} (r : ∃ n f, RowAt h a cap n f) (t : am_H) : ∃ n f, RowAt (h ++ t) a cap n f := by
  obtain ⟨n, f, r⟩ := r
  exact ⟨n, f, r.app t⟩
theorem bIaA {h : am_H} {a N : Nat} (r : ∃ f, am_ia 0 a h = some (N, f)) (t : am_H) : ∃ f, am_ia 0 a (h ++ t) = some (N, f) := by
  obtain ⟨f, r⟩ := r
  exact ⟨f, ia_app r⟩
theorem Rws.app {h : am_H} {a N M : Nat} {T : Nat → Nat → Int32} (r : Rws h a N M T) (t : am_H) : Rws (h ++ t) a N M T := by
  obtain ⟨g, e, hg⟩ := r
  exact ⟨g, ra_app e, fun i hi => ⟨(hg i hi).1, ia_app (hg i hi).2⟩⟩
theorem BlkAt.app {Z : sZ} {h : am_H} {a n : Nat} {s : Nat → Nat} {b : Bool} (B : BlkAt Z h a n s b) (t : am_H) : BlkAt Z (h ++ t) a n s b := by
  obtain ⟨b1, ⟨f, r1, r2⟩, m, f1, g1, ⟨r3, r4⟩, r5⟩ := B
  exact ⟨obj_app b1, ⟨f, r1.app t, r2⟩, m, f1, g1, ⟨r3.app t, r4.app t⟩, r5⟩
theorem VerAt.app {h : am_H} {a n : Nat} {w : Nat → Nat} {p : Int32} {c l : Nat} {x y : Nat → Nat} (V : VerAt h a n w p c l x y) (t : am_H) : VerAt (h ++ t) a n w p c l x y := by
  obtain ⟨b1, ⟨f, r1, r2⟩, ⟨f1, r3, r4⟩, ⟨f2, r5, r6⟩⟩ := V
  exact ⟨obj_app b1, ⟨f, r1.app t, r2⟩, ⟨f1, r3.app t, r4⟩, ⟨f2, r5.app t, r6⟩⟩
theorem Scr.app {h : am_H} (C : Scr h) (t : am_H) : Scr (h ++ t) := by
  obtain ⟨c1, c2, c3, ⟨T, c4, c5⟩, ⟨m1, m2, m3, m4, m5⟩, ⟨⟨a, b, c, u1⟩, u2, ⟨gg, u3, u4⟩, u5⟩, ⟨⟨a', b', c', o1⟩, o2, o3⟩, ⟨⟨ta, t1⟩, t2, t3, t4, t5⟩, ⟨⟨ca, cb, k1⟩, k2, k3, ⟨TC, k4⟩, k6⟩⟩ := C
  exact ⟨bRowA c1 t, bRowA c2 t, bRowA c3 t, ⟨T, c4.app t, c5⟩, ⟨obj_app m1, bIaA m2 t, bIaA m3 t, bIaA m4 t, bRowA m5 t⟩, ⟨⟨a, b, c, obj_app u1⟩, bRowA u2 t, ⟨gg, ra_app u3, fun k hk => ⟨(u4 k hk).1, bRowA (u4 k hk).2 t⟩⟩, bRowA u5 t⟩, ⟨⟨a', b', c', obj_app o1⟩, bIaA o2 t, bRowA o3 t⟩, ⟨⟨ta, obj_app t1⟩, bIaA t2 t, bIaA t3 t, bRowA t4 t, bRowA t5 t⟩, ⟨⟨ca, cb, obj_app k1⟩, bRowA k2 t, bRowA k3 t, ⟨TC, k4.app t⟩, bRowA k6 t⟩⟩
/-- c new cells, k new slots at most; what was there is as it was -/
def Gr (c k : Nat) (h h' : am_H) : Prop := h'.length = h.length + c ∧ am_n h' ≤ am_n h + k ∧ ∀ r, r ≤ h.length → am_at h' r = am_at h r
theorem Gr.ex {c k : Nat} {h h' : am_H} (g : Gr c k h h') : ∃ t, h' = h ++ t := by
  refine ⟨h'.drop h.length, ?_⟩
  apply List.ext_getElem?
  intro r
  by_cases hr : r < h.length
  · rw [List.getElem?_append_left hr]
    exact g.2.2 (r + 1) (by omega)
  · rw [List.getElem?_append_right (by omega), List.getElem?_drop]
    congr 1
    omega
/-! a new block -/
theorem newBlk {Z : sZ} {h : am_H} {src cap m i n : Nat} {f : Nat → Int32} {s : Nat → Nat} (r : RowAt h src cap m f) (hn : n ≤ 24) (hi : i + n ≤ m) (hs : ∀ k, k < n → f (i + k) = nI (s k)) : ∃ h', F_X0_init (h.length + 1) src (nI i) (nI (i + n)) (h ++ [.inr (.inr (0, am_flds 0))]) = some h' ∧ Gr 7 44 h h' ∧ BlkAt Z h' (h.length + 1) n s false := by
  have hr := r.2
  have hl : src ≤ h.length ∧ src + 1 ≤ h.length := by
    obtain ⟨j, e, hj⟩ := am_obj_spec r.1.1
    obtain ⟨j', e', hj'⟩ := am_ia_spec r.1.2
    have := (List.getElem?_eq_some_iff.mp hj).1
    have := (List.getElem?_eq_some_iff.mp hj').1
    omega
  have e1 : am_nw 4 (h ++ [.inr (.inr (0, am_flds 0))]) = some (h.length + 2, h ++ [.inr (.inr (0, am_flds 0)), .inr (.inr (4, [.ref 0, .int 0]))]) := nw_app
  have e2 : F_X4_init (h.length + 2) (nI 5) (h ++ [.inr (.inr (0, am_flds 0)), .inr (.inr (4, [.ref 0, .int 0]))]) = some (h ++ [.inr (.inr (0, am_flds 0)), .inr (.inr (4, [.ref (h.length + 3), .int (nI 0)])), .inl (0, 5, fun _ => 0)]) := row_init (r := 2) (by omega) (by omega) rfl
  have e3 : am_pr 0 1 (h.length + 1) (h.length + 2) (h ++ [.inr (.inr (0, am_flds 0)), .inr (.inr (4, [.ref (h.length + 3), .int (nI 0)])), .inl (0, 5, fun _ => 0)]) = some (h ++ [.inr (.inr (0, [.ref 0, .ref (h.length + 2), .ref 0, .int 0])), .inr (.inr (4, [.ref (h.length + 3), .int (nI 0)])), .inl (0, 5, fun _ => 0)]) := pv_app (r := 1) (by omega) rfl
  have e4 : am_nw 4 (h ++ [.inr (.inr (0, [.ref 0, .ref (h.length + 2), .ref 0, .int 0])), .inr (.inr (4, [.ref (h.length + 3), .int (nI 0)])), .inl (0, 5, fun _ => 0)]) = some (h.length + 4, h ++ [.inr (.inr (0, [.ref 0, .ref (h.length + 2), .ref 0, .int 0])), .inr (.inr (4, [.ref (h.length + 3), .int (nI 0)])), .inl (0, 5, fun _ => 0), .inr (.inr (4, [.ref 0, .int 0]))]) := nw_app
  have e5 : F_X4_init (h.length + 4) (nI 5) (h ++ [.inr (.inr (0, [.ref 0, .ref (h.length + 2), .ref 0, .int 0])), .inr (.inr (4, [.ref (h.length + 3), .int (nI 0)])), .inl (0, 5, fun _ => 0), .inr (.inr (4, [.ref 0, .int 0]))]) = some (h ++ [.inr (.inr (0, [.ref 0, .ref (h.length + 2), .ref 0, .int 0])), .inr (.inr (4, [.ref (h.length + 3), .int (nI 0)])), .inl (0, 5, fun _ => 0), .inr (.inr (4, [.ref (h.length + 5), .int (nI 0)])), .inl (0, 5, fun _ => 0)]) := row_init (r := 4) (by omega) (by omega) rfl
  have e6 : am_pr 0 2 (h.length + 1) (h.length + 4) (h ++ [.inr (.inr (0, [.ref 0, .ref (h.length + 2), .ref 0, .int 0])), .inr (.inr (4, [.ref (h.length + 3), .int (nI 0)])), .inl (0, 5, fun _ => 0), .inr (.inr (4, [.ref (h.length + 5), .int (nI 0)])), .inl (0, 5, fun _ => 0)]) = some (h ++ [.inr (.inr (0, [.ref 0, .ref (h.length + 2), .ref (h.length + 4), .int 0])), .inr (.inr (4, [.ref (h.length + 3), .int (nI 0)])), .inl (0, 5, fun _ => 0), .inr (.inr (4, [.ref (h.length + 5), .int (nI 0)])), .inl (0, 5, fun _ => 0)]) := pv_app (r := 1) (by omega) rfl
  have e7 : am_pz 0 3 (h.length + 1) 0 (h ++ [.inr (.inr (0, [.ref 0, .ref (h.length + 2), .ref (h.length + 4), .int 0])), .inr (.inr (4, [.ref (h.length + 3), .int (nI 0)])), .inl (0, 5, fun _ => 0), .inr (.inr (4, [.ref (h.length + 5), .int (nI 0)])), .inl (0, 5, fun _ => 0)]) = some (h ++ [.inr (.inr (0, [.ref 0, .ref (h.length + 2), .ref (h.length + 4), .int 0])), .inr (.inr (4, [.ref (h.length + 3), .int (nI 0)])), .inl (0, 5, fun _ => 0), .inr (.inr (4, [.ref (h.length + 5), .int (nI 0)])), .inl (0, 5, fun _ => 0)]) := pv_app (r := 1) (by omega) rfl
  have e8 : am_nw 4 (h ++ [.inr (.inr (0, [.ref 0, .ref (h.length + 2), .ref (h.length + 4), .int 0])), .inr (.inr (4, [.ref (h.length + 3), .int (nI 0)])), .inl (0, 5, fun _ => 0), .inr (.inr (4, [.ref (h.length + 5), .int (nI 0)])), .inl (0, 5, fun _ => 0)]) = some (h.length + 6, h ++ [.inr (.inr (0, [.ref 0, .ref (h.length + 2), .ref (h.length + 4), .int 0])), .inr (.inr (4, [.ref (h.length + 3), .int (nI 0)])), .inl (0, 5, fun _ => 0), .inr (.inr (4, [.ref (h.length + 5), .int (nI 0)])), .inl (0, 5, fun _ => 0), .inr (.inr (4, [.ref 0, .int 0]))]) := nw_app
  have e9 : F_X4_init (h.length + 6) (nI n) (h ++ [.inr (.inr (0, [.ref 0, .ref (h.length + 2), .ref (h.length + 4), .int 0])), .inr (.inr (4, [.ref (h.length + 3), .int (nI 0)])), .inl (0, 5, fun _ => 0), .inr (.inr (4, [.ref (h.length + 5), .int (nI 0)])), .inl (0, 5, fun _ => 0), .inr (.inr (4, [.ref 0, .int 0]))]) = some (h ++ [.inr (.inr (0, [.ref 0, .ref (h.length + 2), .ref (h.length + 4), .int 0])), .inr (.inr (4, [.ref (h.length + 3), .int (nI 0)])), .inl (0, 5, fun _ => 0), .inr (.inr (4, [.ref (h.length + 5), .int (nI 0)])), .inl (0, 5, fun _ => 0), .inr (.inr (4, [.ref (h.length + 7), .int (nI 0)])), .inl (0, n, fun _ => 0)]) := row_init (r := 6) (by omega) (by omega) rfl
  have e10 : am_pr 0 0 (h.length + 1) (h.length + 6) (h ++ [.inr (.inr (0, [.ref 0, .ref (h.length + 2), .ref (h.length + 4), .int 0])), .inr (.inr (4, [.ref (h.length + 3), .int (nI 0)])), .inl (0, 5, fun _ => 0), .inr (.inr (4, [.ref (h.length + 5), .int (nI 0)])), .inl (0, 5, fun _ => 0), .inr (.inr (4, [.ref (h.length + 7), .int (nI 0)])), .inl (0, n, fun _ => 0)]) = some (h ++ [.inr (.inr (0, [.ref (h.length + 6), .ref (h.length + 2), .ref (h.length + 4), .int 0])), .inr (.inr (4, [.ref (h.length + 3), .int (nI 0)])), .inl (0, 5, fun _ => 0), .inr (.inr (4, [.ref (h.length + 5), .int (nI 0)])), .inl (0, 5, fun _ => 0), .inr (.inr (4, [.ref (h.length + 7), .int (nI 0)])), .inl (0, n, fun _ => 0)]) := pv_app (r := 1) (by omega) rfl
  generalize ht : ([.inr (.inr (0, [.ref (h.length + 6), .ref (h.length + 2), .ref (h.length + 4), .int 0])), .inr (.inr (4, [.ref (h.length + 3), .int (nI 0)])), .inl (0, 5, fun _ => 0), .inr (.inr (4, [.ref (h.length + 5), .int (nI 0)])), .inl (0, 5, fun _ => 0), .inr (.inr (4, [.ref (h.length + 7), .int (nI 0)])), .inl (0, n, fun _ => 0)] : am_H) = t at e10
  have o1 : am_obj (h.length + 1) 0 (h ++ t) = some [.ref (h.length + 6), .ref (h.length + 2), .ref (h.length + 4), .int 0] := by rw [obj_app1 (by omega), ← ht]; rfl
  have ra : RowAt (h ++ t) (h.length + 2) 5 0 (fun _ => 0) := row_of (by omega) (by rw [← ht]; rfl) (by rw [← ht]; rfl) (by omega)
  have rb : RowAt (h ++ t) (h.length + 4) 5 0 (fun _ => 0) := row_of (by omega) (by rw [← ht]; rfl) (by rw [← ht]; rfl) (by omega)
  have rc : RowAt (h ++ t) (h.length + 6) n 0 (fun _ => 0) := row_of (by omega) (by rw [← ht]; rfl) (by rw [← ht]; rfl) (by omega)
  have hlt : t.length = 7 := by rw [← ht]; rfl
  have hnt : am_n t = 20 + n := by rw [← ht]; show 4 + (2 + (5 + (2 + (5 + (2 + (n + 0)))))) = 20 + n; omega
  obtain ⟨h', f', e11, rd, -, g2, G⟩ := row_addPart (a := h.length + 6) (b := src) (k := n) (by omega) rc (r.app t) (show i + n < 100000 by omega) (show i < 100000 by omega) (by omega) (by omega) (by omega)
  rw [Nat.zero_add] at rd
  have g0 : am_gr 0 0 (h.length + 1) (h ++ t) = some (h.length + 6) := by unfold am_gr; rw [o1]; rfl
  refine ⟨h', ?_, ⟨by rw [G.1, List.length_append, hlt], by rw [G.2.1, am_n_app, hnt]; omega, fun q hq => by rw [G.2.2 q (by omega), at_app0 hq]⟩, ⟨(obj_at (G.2.2 _ (by omega))).trans o1, ⟨f', rd, fun _ k hk => ?_⟩, 0, _, _, ⟨ra.fr G (by omega) (by omega), rb.fr G (by omega) (by omega)⟩, Or.inl rfl⟩⟩
  · unfold F_X0_init F_X0_init_b
    rw [obj_app1 (r := 1) (by omega), show am_obj 1 0 [(.inr (.inr (0, am_flds 0)) : am_C)] = some (am_flds 0) from rfl, Option.bind_some, Option.bind_some, e1, Option.bind_some]
    show (F_X4_init (h.length + 2) (nI 5) (h ++ [.inr (.inr (0, am_flds 0)), .inr (.inr (4, [.ref 0, .int 0]))])).bind _ = _
    rw [e2, Option.bind_some]
    show (am_pr 0 1 (h.length + 1) (h.length + 2) _).bind _ = _
    rw [e3, Option.bind_some, e4, Option.bind_some]
    show (F_X4_init (h.length + 4) (nI 5) (h ++ [_, _, _, _])).bind _ = _
    rw [e5, Option.bind_some]
    show (am_pr 0 2 (h.length + 1) (h.length + 4) _).bind _ = _
    rw [e6, Option.bind_some, e7, Option.bind_some, e8, Option.bind_some, nI_subN (by omega), Nat.add_sub_cancel_left]
    show (F_X4_init (h.length + 6) (nI n) (h ++ [_, _, _, _, _, _])).bind _ = _
    rw [e9, Option.bind_some]
    show (am_pr 0 0 (h.length + 1) (h.length + 6) _).bind _ = _
    rw [e10, Option.bind_some, g0, Option.bind_some, e11, Option.bind_some]
  · have := g2 k hk
    rw [Nat.zero_add] at this
    rw [this, hs k hk]
