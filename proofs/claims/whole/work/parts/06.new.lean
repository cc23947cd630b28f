/-! ROWS OF THE SMALL HEAP: new cells -/
/-- what a new object of a class holds -/
def am_df (ty : FieldType) : Value := match ty with
  | .int => .int 0
  | .boolean => .int 0
  | .long => .long 0
  | _ => .ref 0
def am_tyT : Nat → Nat → FieldType
  | 0 => tyX0
  | 1 => tyX1
  | 2 => tyX2
  | 3 => tyX3
  | 4 => tyX4
  | 5 => tyX5
  | 6 => tyX6
  | 7 => tyX7
  | 8 => tyX8
  | _ => tyX9
def am_flds (c : Nat) : List Value := (List.range (match am_cl[c]? with | some q => q.2.2 | none => 0)).map (fun k => am_df (am_tyT c k))
def am_nw (c : Nat) (h : am_H) : Option (Nat × am_H) := some (h.length + 1, h ++ [.inr (.inr (c, am_flds c))])
def am_nn (n : Int32) : Option Nat := if 0 ≤ n ∧ n.toNatClampNeg ≤ 100000 then some n.toNatClampNeg else none
def am_ni (t : Nat) (n : Int32) (h : am_H) : Option (Nat × am_H) := (am_nn n).bind fun N => some (h.length + 1, h ++ [.inl (t, N, fun _ => 0)])
def am_na (t : Nat) (n : Int32) (h : am_H) : Option (Nat × am_H) := (am_nn n).bind fun N => some (h.length + 1, h ++ [.inr (.inl (t, N, fun _ => 0))])
/-- new int[n][k]: the row of rows, then the rows -/
def am_nm (n k : Int32) (h : am_H) : Option (Nat × am_H) := (am_nn n).bind fun N => (am_nn k).bind fun K => some (h.length + 1, (h ++ [.inr (.inl (5, N, fun i => if i < N then h.length + 2 + i else 0))]) ++ List.replicate N (.inl (0, K, fun _ => 0)))
theorem am_nn_spec {n : Int32} {N : Nat} (h : am_nn n = some N) : n.toNatClampNeg = N ∧ ¬ n < 0 ∧ N ≤ 100000 := by
  unfold am_nn at h
  split at h
  · next hc =>
    cases h
    refine ⟨rfl, fun q => ?_, hc.2⟩
    rw [Int32.lt_iff_toInt_lt] at q
    have := Int32.le_iff_toInt_le.mp hc.1
    omega
  · cases h
section AMU
variable {g : am_G} {l : Launch} {M : am_M} {h0 hf h h1 : am_H} {r : Option Value} {pc pc' : Nat} {ls ls' : List (Option Value)} {st st' : List Value}
theorem am_hsz {p : Program} {e : Env} {s : State} {m : MethodId} {args : Array Value} {below : List Frame} {meth : Method} {c : Code} {lsc : Array Slot} {H : Heap} {locs : List Loc} {slots : Nat} {R : Room} {T : State} (C : am_Cx g M h0 p s m args meth c lsc H locs ls h) (hle : am_le h0 h) (hT : T.heap = H) (X : Stand p l e R s m args below meth c T locs (h.length - h0.length) slots) : H.size = g.2.2.1 0 + h.length := by
  have h1 := X.heapSize
  rw [hT, C.2.2.2.1] at h1
  have h2 : g.2.2.1 0 + h.length ≤ H.size := by
    by_cases hz : h.length = 0
    · have := C.2.2.2.2.2.1.1
      rw [C.2.2.2.1] at this
      omega
    · have hk : h.length - 1 < h.length := by omega
      have := (C.2.2.2.2.1 _ _ (am_ws_get (g := g) (List.getElem?_eq_getElem hk))).lt
      have e : (g.2.2.1 0 + (h.length - 1), am_e g h[h.length - 1]).1 = g.2.2.1 0 + (h.length - 1) := rfl
      rw [e] at this
      omega
  have := hle.1
  omega
/-- new cells: their numbers are the next ones -/
theorem am_grow {x : am_C} (k : am_W g l M h0 r hf pc' ls st' (h ++ [x]))
    (row : ∀ {p : Program} {e : Env} {s : State} {m : MethodId} {args : Array Value} {below : List Frame} {meth : Method} {c : Code} {lsc : Array Slot} {H : Heap} {locs : List Loc} {R : Room} {Q : State → Prop} {cells slots : Nat}, am_Cx g M h0 p s m args meth c lsc H locs ls h → s.heap.size + cells = g.2.2.1 0 + h.length → cells + 1 ≤ R.cells → slots + am_sz x ≤ R.slots →
      (∀ (H1 : Heap), am_R g (h ++ [x]) H1 → va_S (am_A g) s.heap H1 locs → W p l e R s m args below meth c H1 locs (cells + 1) (slots + am_sz x) Q (F0 m pc' lsc (st'.map (am_v g)))) → W p l e R s m args below meth c H locs cells slots Q (F0 m pc lsc (st.map (am_v g)))) : am_W g l M h0 r hf pc ls st h := by
  obtain ⟨k1, k2⟩ := k
  have e1 : (h ++ [x]).length = h.length + 1 := by simp
  have e2 := am_n_push h x
  have k1' := k1
  unfold am_le at k1'
  rw [e1, e2] at k1'
  refine ⟨⟨by omega, by omega⟩, fun hle p e s m args below meth c lsc H locs C => ?_⟩
  have hle' := hle
  unfold am_le at hle'
  have hs0 := C.2.2.2.1
  refine row C (by omega) (by unfold am_rm; dsimp only; omega) (by unfold am_rm; dsimp only; omega) (fun H1 hR hS => ?_)
  have := k2 (by unfold am_le; rw [e1, e2]; omega) p e s m args below meth c lsc H1 locs ⟨C.1, C.2.1, C.2.2.1, C.2.2.2.1, hR, hS, C.2.2.2.2.2.2⟩
  rw [e1, e2, show h.length + 1 - h0.length = h.length - h0.length + 1 by omega, show am_n h + am_sz x - am_n h0 = am_n h - am_n h0 + am_sz x by omega] at this
  exact this
theorem am_q {q : Nat} {e : va_E} {H1 : Heap} (hP : va_P g.1 am_cl (am_ws g h ++ [(q, e)]) H1) (hD : va_D (am_A g) (am_ws g h ++ [(q, e)])) (hz : H1.size ≤ g.2.2.1 0 + h.length + 1) : q = g.2.2.1 0 + h.length := by
  have hk : (am_ws g h ++ [(q, e)])[h.length]? = some (q, e) := by
    rw [List.getElem?_append_right (by rw [am_ws_len]; exact Nat.le_refl _), am_ws_len, Nat.sub_self]
    rfl
  have hlt : q < H1.size := (hP _ _ hk).lt
  have hA : g.2.2.1 0 ≤ q := hD.2 _ _ hk
  by_cases hq : q < g.2.2.1 0 + h.length
  · exfalso
    have hi : q - g.2.2.1 0 < h.length := by omega
    have hj : (am_ws g h ++ [(q, e)])[q - g.2.2.1 0]? = some (g.2.2.1 0 + (q - g.2.2.1 0), am_e g h[q - g.2.2.1 0]) := by
      rw [List.getElem?_append_left (by rw [am_ws_len]; exact hi)]
      exact am_ws_get (List.getElem?_eq_getElem hi)
    have := hD.1 _ _ _ _ hj hk (by show g.2.2.1 0 + (q - g.2.2.1 0) = q; omega)
    omega
  · omega
theorem am_fresh {x : am_C} {p : Program} {e : Env} {s : State} {m : MethodId} {args : Array Value} {below : List Frame} {meth : Method} {c : Code} {lsc : Array Slot} {locs : List Loc} {R : Room} {Q : State → Prop} {cells slots : Nat} {H1 : Heap} {q : Nat} {rest : List Value} {x' : va_E} (hx : x' = am_e g x) (hcs : s.heap.size + cells = g.2.2.1 0 + h.length)
    (kk : ∀ (H1 : Heap), am_R g (h ++ [x]) H1 → va_S (am_A g) s.heap H1 locs → W p l e R s m args below meth c H1 locs (cells + 1) (slots + am_sz x) Q (F0 m pc' lsc (.ref (g.2.2.1 0 + h.length) :: rest)))
    (hP : va_P g.1 am_cl (am_ws g h ++ [(q, x')]) H1) (hD : va_D (am_A g) (am_ws g h ++ [(q, x')])) (hS : va_S (am_A g) s.heap H1 locs) : W p l e R s m args below meth c H1 locs (cells + 1) (slots + am_sz x) Q (F0 m pc' lsc (.ref q :: rest)) := by
  subst hx
  intro T hT X
  have hz := X.heapSize
  rw [hT] at hz
  have hq := am_q hP hD (by omega)
  subst hq
  exact kk H1 (by unfold am_R; rw [am_ws_push]; exact hP) hS T hT X
theorem am_df_v (ty : FieldType) (hty : ty = .int ∨ ty = .boolean ∨ ty = .long ∨ (∃ C, ty = .object C) ∨ ∃ t, ty = .array t) : defaultValue ty = am_v g (am_df ty) := by
  rcases hty with rfl | rfl | rfl | ⟨C, rfl⟩ | ⟨t, rfl⟩ <;> rfl
def am_okT (ty : FieldType) : Bool := match ty with
  | .int => true
  | .boolean => true
  | .long => true
  | .object _ => true
  | .array _ => true
  | _ => false
theorem am_df_ok {ty : FieldType} (h : am_okT ty = true) : defaultValue ty = am_v g (am_df ty) := by
  cases ty <;> first | rfl | cases h
/-- words for a class that is made -/
def am_nx (own : String) (idx c : Nat) : Prop := ∃ q : vw_C, am_cl[c]? = some q ∧ (∀ w ∈ u_ws q.1 q.2.1 q.2.2, w ∈ am_ts) ∧ (∀ k, k < q.2.2 → parseFieldDescriptor (q.2.1 k).2.2.1 = some (am_tyT c k)) ∧ (∀ k, k < q.2.2 → am_okT (am_tyT c k) = true) ∧ Cond.classLink own idx q.1 ∈ am_ts ∧ Cond.instantiable q.1 q.2.2 ∈ am_ts ∧ Cond.initialized q.1 ∈ am_ts
theorem am_new {c idx n : Nat} (hd : decode M.2.1 pc = .ok (.new idx, 3)) (hw : am_nx M.1.cls idx c) (hx : am_nw c h = some (n, h1)) (hp : pc' = pc + 3) (kk : am_W g l M h0 r hf pc' ls (.ref n :: st) h1) : am_W g l M h0 r hf pc ls st h := by
  subst hp
  cases hx
  obtain ⟨⟨C, T, N⟩, hc, hin, hty, hok, w1, w2, w3⟩ := hw
  have hN : am_flds c = (List.range N).map (fun k => am_df (am_tyT c k)) := by unfold am_flds; rw [hc]
  have hsz : am_sz (.inr (.inr (c, am_flds c))) = N := by rw [hN]; simp [am_sz]
  refine am_grow kk (fun Cx hcs hcl hsl w => ?_)
  refine va_new (D := g.1) (cl := am_cl) (own := M.1.cls) (C := C) (T := T) (N := N) (ci := c) (fs := (am_flds c).map (am_v g)) Cx.1.1 Cx.1.2.1 Cx.1.2.2.2.2.2.1 hin (am_tyT c) hty Cx.1.2.2.2.2.1 (Cx.1.2.2.2.2.2.1 _ w1) (Cx.1.2.2.2.2.2.1 _ w2) (Cx.1.2.2.2.2.2.1 _ w3) Cx.2.1 Cx.2.2.2.2.1 am_ws_D Cx.2.2.2.2.2.1 (fun q hq => by have := Cx.2.2.2.1; show _ ≤ q; omega) hc (fun j hj => ?_) hcl (by rw [hsz] at hsl; exact hsl) hd (fun q H1 hP hD hS => ?_)
  · rw [am_df_ok (g := g) (hok j hj), hN]
    unfold vp_V
    simp [List.getD, hj]
  · have := am_fresh (x := .inr (.inr (c, am_flds c))) rfl hcs w hP hD hS
    rw [hsz] at this
    exact this
theorem am_cA {U : State} {cA cB : ClassId} {ty : FieldType} (h1 : va_RA U cA ty) (h2 : va_RA U cB ty) : cA = cB := by
  cases ty with
  | object C =>
    obtain ⟨_, _, _, _, _, a⟩ := h1
    obtain ⟨_, _, _, _, _, b⟩ := h2
    exact Option.some.inj (a.symm.trans b)
  | _ => exact Option.some.inj (h1.symm.trans h2)
theorem am_K_last {D : va_G} {cl : List vw_C} {tys : List (ClassId × FieldType)} {cA : ClassId} {ty : FieldType} {U : State} (h : va_K D cl (tys ++ [(cA, ty)]) U) : va_RA U cA ty := (h.2 tys.length (cA, ty) (by simp)).2
theorem am_newa {t : Nat} {n : Int32} {q : Nat} {atype : ArrayType} {ty : FieldType} (hd : decode M.2.1 pc = .ok (.newarray atype, 2)) (hty : newarray.typeOf atype = ty) (ht : ∀ g : am_G, (am_tys g)[t]? = some (g.2.1 t, ty)) (hdf : defaultValue ty = .int 0) (hcb : componentBytes ty ≤ 8) (hw : Cond.arrayClass ty ∈ am_ts) (hx : am_ni t n h = some (q, h1)) (hp : pc' = pc + 2) (kk : am_W g l M h0 r hf pc' ls (.ref q :: st) h1) : am_W g l M h0 r hf pc ls (.int n :: st) h := by
  subst hp
  obtain ⟨N, hN, hx⟩ := am_bind hx
  cases hx
  obtain ⟨hN, hn, hN2⟩ := am_nn_spec hN
  subst hN
  refine am_grow kk (fun Cx hcs hcl hsl w => ?_)
  refine va_newa (D := g.1) (cl := am_cl) (ws := am_ws g h) (a0 := (n.toNatClampNeg, .inl (fun _ => 0))) Cx.1.1 Cx.1.2.1 (by rw [hty]; exact Cx.1.2.2.2.2.2.1 _ hw) hty Cx.2.1 Cx.2.2.2.2.1 am_ws_D Cx.2.2.2.2.2.1 (fun q hq => by have := Cx.2.2.2.1; show _ ≤ q; omega) (fun cA => by rw [hdf]; rfl) hn rfl (Nat.le_trans (Nat.mul_le_mul hN2 hcb) (by decide)) hcl hsl hd (fun q cA H1 hK hP hD hS => ?_)
  have e := am_cA (am_K_last hK) (Cx.2.1.2 t _ (ht g)).2
  subst e
  exact am_fresh (x := .inl (t, n.toNatClampNeg, fun _ => 0)) rfl hcs w hP hD hS
theorem am_anew {t : Nat} {n : Int32} {q idx : Nat} {C : String} (hd : decode M.2.1 pc = .ok (.anewarray idx, 3)) (ht : ∀ g : am_G, (am_tys g)[t]? = some (g.2.1 t, .object C)) (w1 : Cond.classLink M.1.cls idx C ∈ am_ts) (w2 : Cond.arrayOver (.object C) ∈ am_ts) (hx : am_na t n h = some (q, h1)) (hp : pc' = pc + 3) (kk : am_W g l M h0 r hf pc' ls (.ref q :: st) h1) : am_W g l M h0 r hf pc ls (.int n :: st) h := by
  subst hp
  obtain ⟨N, hN, hx⟩ := am_bind hx
  cases hx
  obtain ⟨hN, hn, hN2⟩ := am_nn_spec hN
  subst hN
  refine am_grow kk (fun Cx hcs hcl hsl w => ?_)
  refine va_newq (D := g.1) (cl := am_cl) (ws := am_ws g h) Cx.1.1 Cx.1.2.1 Cx.1.2.2.2.2.1 (Cx.1.2.2.2.2.2.1 _ w1) (va_AO.of (Cx.1.2.2.2.2.2.1 _ w2)) Cx.2.1 Cx.2.2.2.2.1 am_ws_D Cx.2.2.2.2.2.1 (fun q hq => by have := Cx.2.2.2.1; show _ ≤ q; omega) hn rfl (Nat.le_trans (Nat.mul_le_mul_right 4 hN2) (by decide)) hcl hsl hd (fun q cA H1 hK hP hD hS => ?_)
  have e := am_cA (am_K_last hK) (Cx.2.1.2 t _ (ht g)).2
  subst e
  exact am_fresh (x := .inr (.inl (t, n.toNatClampNeg, fun _ => 0))) rfl hcs w hP hD hS
end AMU
