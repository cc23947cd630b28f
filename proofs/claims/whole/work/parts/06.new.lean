/-! ROWS OF THE SMALL HEAP: new cells -/
/-- what a new object of a class holds -/
def am_df (ty : FieldType) : Value := match ty with
  | .int => .int 0
  | .boolean => .int 0
  | .long => .long 0
  | _ => .ref 0
def am_tyT : Nat → Nat → FieldType
  | 0 => tyX0
  | 1 => tyX1
  | 2 => tyX2
  | 3 => tyX3
  | 4 => tyX4
  | 5 => tyX5
  | 6 => tyX6
  | 7 => tyX7
  | 8 => tyX8
  | _ => tyX9
def am_flds (c : Nat) : List Value := (List.range (match am_cl[c]? with | some q => q.2.2 | none => 0)).map (fun k => am_df (am_tyT c k))
def am_nw (c : Nat) (h : am_H) : Option (Nat × am_H) := some (h.length + 1, h ++ [.inr (.inr (c, am_flds c))])
def am_nn (n : Int32) : Option Nat := if 0 ≤ n ∧ n.toNatClampNeg ≤ 100000 then some n.toNatClampNeg else none
def am_ni (t : Nat) (n : Int32) (h : am_H) : Option (Nat × am_H) := (am_nn n).bind fun N => some (h.length + 1, h ++ [.inl (t, N, fun _ => 0)])
def am_na (t : Nat) (n : Int32) (h : am_H) : Option (Nat × am_H) := (am_nn n).bind fun N => some (h.length + 1, h ++ [.inr (.inl (t, N, fun _ => 0))])
/-- new int[n][k]: the row of rows, then the rows -/
def am_nm (n k : Int32) (h : am_H) : Option (Nat × am_H) := (am_nn n).bind fun N => (am_nn k).bind fun K => some (h.length + 1, (h ++ [.inr (.inl (5, N, fun i => if i < N then h.length + 2 + i else 0))]) ++ List.replicate N (.inl (0, K, fun _ => 0)))
theorem am_nn_spec {n : Int32} {N : Nat} (h : am_nn n = some N) : n.toNatClampNeg = N ∧ ¬ n < 0 ∧ N ≤ 100000 := by
  unfold am_nn at h
  split at h
  · next hc =>
    cases h
    refine ⟨rfl, fun q => ?_, hc.2⟩
    rw [Int32.lt_iff_toInt_lt] at q
    have := Int32.le_iff_toInt_le.mp hc.1
    omega
  · cases h
section AMU
variable {g : am_G} {l : Launch} {M : am_M} {h0 hf h h1 : am_H} {r : Option Value} {pc pc' : Nat} {ls ls' : List (Option Value)} {st st' : List Value}
theorem am_hsz {p : Program} {e : Env} {s : State} {m : MethodId} {args : Array Value} {below : List Frame} {meth : Method} {c : Code} {lsc : Array Slot} {H : Heap} {locs : List Loc} {slots : Nat} {R : Room} {T : State} (C : am_Cx g M h0 p s m args meth c lsc H locs ls h) (hle : am_le h0 h) (hT : T.heap = H) (X : Stand p l e R s m args below meth c T locs (h.length - h0.length) slots) : H.size = g.2.2.1 0 + h.length := by
  have h1 := X.heapSize
  rw [hT, C.2.2.2.1] at h1
  have h2 : g.2.2.1 0 + h.length ≤ H.size := by
    by_cases hz : h.length = 0
    · have := C.2.2.2.2.2.1.1
      rw [C.2.2.2.1] at this
      omega
    · have hk : h.length - 1 < h.length := by omega
      have := (C.2.2.2.2.1 _ _ (am_ws_get (g := g) (List.getElem?_eq_getElem hk))).lt
      have e : (g.2.2.1 0 + (h.length - 1), am_e g h[h.length - 1]).1 = g.2.2.1 0 + (h.length - 1) := rfl
      rw [e] at this
      omega
  have := hle.1
  omega
/-- new cells: their numbers are the next ones -/
theorem am_grow {x : am_C} (k : am_W g l M h0 r hf pc' ls st' (h ++ [x]))
    (row : ∀ {p : Program} {e : Env} {s : State} {m : MethodId} {args : Array Value} {below : List Frame} {meth : Method} {c : Code} {lsc : Array Slot} {H : Heap} {locs : List Loc} {R : Room} {Q : State → Prop} {cells slots : Nat}, am_Cx g M h0 p s m args meth c lsc H locs ls h → H.size = g.2.2.1 0 + h.length → cells + 1 ≤ R.cells → slots + am_sz x ≤ R.slots →
      (∀ (H1 : Heap), am_R g (h ++ [x]) H1 → va_S (am_A g) s.heap H1 locs → W p l e R s m args below meth c H1 locs (cells + 1) (slots + am_sz x) Q (F0 m pc' lsc (st'.map (am_v g)))) → W p l e R s m args below meth c H locs cells slots Q (F0 m pc lsc (st.map (am_v g)))) : am_W g l M h0 r hf pc ls st h := by
  obtain ⟨k1, k2⟩ := k
  have e1 : (h ++ [x]).length = h.length + 1 := by simp
  have e2 := am_n_push h x
  have k1' := k1
  unfold am_le at k1'
  rw [e1, e2] at k1'
  refine ⟨⟨by omega, by omega⟩, fun hle p e s m args below meth c lsc H locs C => ?_⟩
  have hle' := hle
  unfold am_le at hle'
  intro T hT X
  have hz := am_hsz C hle hT X
  refine row C hz (by unfold am_rm; dsimp only; omega) (by unfold am_rm; dsimp only; omega) (fun H1 hR hS => ?_) T hT X
  have := k2 (by unfold am_le; rw [e1, e2]; omega) p e s m args below meth c lsc H1 locs ⟨C.1, C.2.1, C.2.2.1, C.2.2.2.1, hR, hS, C.2.2.2.2.2.2⟩
  rw [e1, e2, show h.length + 1 - h0.length = h.length - h0.length + 1 by omega, show am_n h + am_sz x - am_n h0 = am_n h - am_n h0 + am_sz x by omega] at this
  exact this
end AMU
