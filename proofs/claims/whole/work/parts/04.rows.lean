/-! ROWS OF THE SMALL HEAP: an instruction each, goal first -/
def am_isL : Option Value → Bool
  | some (.long _) => true
  | some (.double _) => true
  | _ => false
def am_clr (ls : List (Option Value)) : Nat → List (Option Value)
  | 0 => ls
  | j + 1 => match am_isL ((ls[j]?).getD none) with
    | true => ls.set j none
    | false => ls
def am_sto (ls : List (Option Value)) (i : Nat) (v : Value) : List (Option Value) := (am_clr ls i).set i (some v)
def am_sto2 (ls : List (Option Value)) (i : Nat) (v : Value) : List (Option Value) := ((am_clr ls i).set i (some v)).set (i + 1) none
def am_li (g : am_G) (ls : List (Option Value)) : List (Nat × Value) := (ls.mapIdx (fun i o => (i, o))).filterMap (fun q => q.2.map (fun v => (q.1, am_v g v)))
theorem am_li_mem {g : am_G} {ls : List (Option Value)} {i : Nat} {w : Value} : (i, w) ∈ am_li g ls ↔ ∃ v, ls[i]? = some (some v) ∧ w = am_v g v := by
  unfold am_li
  rw [List.mem_filterMap]
  constructor
  · rintro ⟨⟨j, o⟩, h1, h2⟩
    obtain ⟨k, hk, he⟩ := List.mem_mapIdx.mp h1
    cases o with
    | none => cases h2
    | some v =>
      obtain ⟨e1, e2⟩ := Prod.mk.inj he
      subst e1
      cases h2
      exact ⟨v, List.getElem?_eq_some_iff.mpr ⟨hk, e2⟩, rfl⟩
  · rintro ⟨v, h1, rfl⟩
    obtain ⟨hk, he⟩ := List.getElem?_eq_some_iff.mp h1
    exact ⟨(i, some v), List.mem_mapIdx.mpr ⟨i, hk, by rw [he]⟩, rfl⟩
theorem am_cat {g : am_G} (w : Value) : ((am_v g w).category == 2) = am_isL (some w) := by
  cases w with
  | ref n => cases n <;> rfl
  | _ => rfl
theorem am_clr_get {ls : List (Option Value)} {i j : Nat} {w : Value} (h : (am_clr ls i)[j]? = some (some w)) : ls[j]? = some (some w) ∧ (j + 1 = i → am_isL (some w) = false) := by
  cases i with
  | zero => exact ⟨h, fun e => by omega⟩
  | succ i =>
    unfold am_clr at h
    cases hb : am_isL ((ls[i]?).getD none) with
    | true =>
      simp only [hb] at h
      rw [List.getElem?_set] at h
      by_cases e : i = j
      · rw [if_pos e] at h
        split at h <;> cases h
      · rw [if_neg e] at h
        exact ⟨h, fun e2 => absurd (by omega) e⟩
    | false =>
      simp only [hb] at h
      refine ⟨h, fun e2 => ?_⟩
      have e3 : j = i := by omega
      subst e3
      rw [h] at hb
      exact hb
theorem am_L.has {g : am_G} {nL : Nat} {lsc : Array Slot} {ls : List (Option Value)} (h : am_L g nL lsc ls) : lv_has lsc nL (am_li g ls) :=
  ⟨h.1, h.2.1, fun q hq => by
    obtain ⟨i, w⟩ := q
    obtain ⟨v, h1, rfl⟩ := am_li_mem.mp hq
    exact h.2.2 i v h1⟩
theorem am_L.sto1 {g : am_G} {nL : Nat} {lsc' : Array Slot} {ls : List (Option Value)} {i : Nat} {v : Value} (h : lv_has lsc' nL ((i, am_v g v) :: (am_li g ls).filter (fun q => !(q.1 == i) && !(q.1 + 1 == i && q.2.category == 2)))) : am_L g nL lsc' (am_sto ls i v) := by
  refine ⟨h.1, h.2.1, fun j w hj => ?_⟩
  unfold am_sto at hj
  rw [List.getElem?_set] at hj
  by_cases e : i = j
  · subst e
    rw [if_pos rfl] at hj
    split at hj
    · cases hj
      exact h.2.2 _ List.mem_cons_self
    · cases hj
  · rw [if_neg e] at hj
    obtain ⟨h1, h2⟩ := am_clr_get hj
    refine h.2.2 (j, am_v g w) (List.mem_cons_of_mem _ (List.mem_filter.mpr ⟨am_li_mem.mpr ⟨w, h1, rfl⟩, ?_⟩))
    have e1 : (j == i) = false := by simp; omega
    show (!(j == i) && !(j + 1 == i && (am_v g w).category == 2)) = true
    rw [e1, am_cat]
    by_cases e2 : j + 1 = i
    · rw [h2 e2]; simp
    · have e3 : (j + 1 == i) = false := by simp; omega
      rw [e3]; rfl
theorem am_L.sto2 {g : am_G} {nL : Nat} {lsc' : Array Slot} {ls : List (Option Value)} {i : Nat} {v : Value} (h : lv_has lsc' nL ((i, am_v g v) :: (am_li g ls).filter (fun q => !(q.1 == i) && (!(q.1 == i + 1) && !(q.1 + 1 == i && q.2.category == 2))))) : am_L g nL lsc' (am_sto2 ls i v) := by
  refine ⟨h.1, h.2.1, fun j w hj => ?_⟩
  unfold am_sto2 at hj
  rw [List.getElem?_set] at hj
  by_cases e0 : i + 1 = j
  · rw [if_pos e0] at hj
    split at hj <;> cases hj
  · rw [if_neg e0, List.getElem?_set] at hj
    by_cases e : i = j
    · subst e
      rw [if_pos rfl] at hj
      split at hj
      · cases hj
        exact h.2.2 _ List.mem_cons_self
      · cases hj
    · rw [if_neg e] at hj
      obtain ⟨h1, h2⟩ := am_clr_get hj
      refine h.2.2 (j, am_v g w) (List.mem_cons_of_mem _ (List.mem_filter.mpr ⟨am_li_mem.mpr ⟨w, h1, rfl⟩, ?_⟩))
      have e1 : (j == i) = false := by simp; omega
      have e4 : (j == i + 1) = false := by simp; omega
      show (!(j == i) && (!(j == i + 1) && !(j + 1 == i && (am_v g w).category == 2))) = true
      rw [e1, e4, am_cat]
      by_cases e2 : j + 1 = i
      · rw [h2 e2]; simp
      · have e3 : (j + 1 == i) = false := by simp; omega
        rw [e3]; rfl
/-- fewer places known -/
def am_mask : List Bool → List (Option Value) → List (Option Value)
  | b :: bs, o :: os => (match b with | true => o | false => none) :: am_mask bs os
  | _, _ => []
theorem am_mask_get : ∀ {bs : List Bool} {ls : List (Option Value)} {i : Nat} {v : Value}, (am_mask bs ls)[i]? = some (some v) → ls[i]? = some (some v)
  | [], ls, i, v, h => by simp [am_mask] at h
  | b :: bs, [], i, v, h => by simp [am_mask] at h
  | b :: bs, o :: os, 0, v, h => by cases b <;> simp_all [am_mask]
  | b :: bs, o :: os, i + 1, v, h => by
    simp only [am_mask, List.getElem?_cons_succ] at h ⊢
    exact am_mask_get h
section AMS
variable {g : am_G} {l : Launch} {M : am_M} {h0 hf h : am_H} {r : Option Value} {pc pc' : Nat} {ls ls' : List (Option Value)} {st st' : List Value}
theorem am_weak (bs : List Bool) (k : am_W g l M h0 r hf pc (am_mask bs ls) st h) : am_W g l M h0 r hf pc ls st h :=
  ⟨k.1, fun h1 p e s m args below meth c lsc H locs C => k.2 h1 p e s m args below meth c lsc H locs ⟨C.1, C.2.1, C.2.2.1, C.2.2.2.1, C.2.2.2.2.1, C.2.2.2.2.2.1, C.2.2.2.2.2.2.1, C.2.2.2.2.2.2.2.1, fun i v hi => C.2.2.2.2.2.2.2.2 i v (am_mask_get hi)⟩⟩

theorem am_iconst {n : Int} {v : Int32} (hd : decode M.2.1 pc = .ok (.iconst n, 1)) (hv : Int32.ofInt n = v) (hp : pc' = pc + 1) (k : am_W g l M h0 r hf pc' ls (.int v :: st) h) : am_W g l M h0 r hf pc ls (st) h := by
  subst hp
  exact am_pure k (fun C w => lv_iconst C.1.1 C.1.2.1 hd hv w)
theorem am_bipush {n : Int} {v : Int32} (hd : decode M.2.1 pc = .ok (.bipush n, 2)) (hv : (Int8.ofInt n).toInt32 = v) (hp : pc' = pc + 2) (k : am_W g l M h0 r hf pc' ls (.int v :: st) h) : am_W g l M h0 r hf pc ls (st) h := by
  subst hp
  exact am_pure k (fun C w => lv_bipush C.1.1 C.1.2.1 hd hv w)
theorem am_sipush {n : Int} {v : Int32} (hd : decode M.2.1 pc = .ok (.sipush n, 3)) (hv : (Int16.ofInt n).toInt32 = v) (hp : pc' = pc + 3) (k : am_W g l M h0 r hf pc' ls (.int v :: st) h) : am_W g l M h0 r hf pc ls (st) h := by
  subst hp
  exact am_pure k (fun C w => lv_sipush C.1.1 C.1.2.1 hd hv w)
theorem am_lconst {n : Fin 2} {v : Int64} (hd : decode M.2.1 pc = .ok (.lconst n, 1)) (hv : Int64.ofNat (n : Nat) = v) (hp : pc' = pc + 1) (k : am_W g l M h0 r hf pc' ls (.long v :: st) h) : am_W g l M h0 r hf pc ls (st) h := by
  subst hp
  exact am_pure k (fun C w => lv_lconst C.1.1 C.1.2.1 hd hv w)
theorem am_ldc {i : Nat} {v : Int32} (hd : decode M.2.1 pc = .ok (.ldc i, 2)) (hw : Jvm.Cond.constant M.1.cls i v ∈ am_ts) (hp : pc' = pc + 2) (k : am_W g l M h0 r hf pc' ls (.int v :: st) h) : am_W g l M h0 r hf pc ls (st) h := by
  subst hp
  exact am_pure k (fun C w => lv_ldc C.1.1 C.1.2.1 C.1.2.2.2.2.1 (C.1.2.2.2.2.2.1 _ hw) hd w)
theorem am_ldcw {i : Nat} {v : Int32} (hd : decode M.2.1 pc = .ok (.ldc_w i, 3)) (hw : Jvm.Cond.constant M.1.cls i v ∈ am_ts) (hp : pc' = pc + 3) (k : am_W g l M h0 r hf pc' ls (.int v :: st) h) : am_W g l M h0 r hf pc ls (st) h := by
  subst hp
  exact am_pure k (fun C w => lv_ldcw C.1.1 C.1.2.1 C.1.2.2.2.2.1 (C.1.2.2.2.2.2.1 _ hw) hd w)
theorem am_ldc2 {i : Nat} {v : Int64} (hd : decode M.2.1 pc = .ok (.ldc2_w i, 3)) (hw : Jvm.Cond.constantLong M.1.cls i v ∈ am_ts) (hp : pc' = pc + 3) (k : am_W g l M h0 r hf pc' ls (.long v :: st) h) : am_W g l M h0 r hf pc ls (st) h := by
  subst hp
  exact am_pure k (fun C w => lv_ldc2 C.1.1 C.1.2.1 C.1.2.2.2.2.1 (C.1.2.2.2.2.2.1 _ hw) hd w)
theorem am_null (hd : decode M.2.1 pc = .ok (.aconst_null, 1)) (hp : pc' = pc + 1) (k : am_W g l M h0 r hf pc' ls (.ref 0 :: st) h) : am_W g l M h0 r hf pc ls (st) h := by
  subst hp
  exact am_pure k (fun C w => lv_null C.1.1 C.1.2.1 hd w)
theorem am_iload_n {j : Fin 4} {x : Int32} (hd : decode M.2.1 pc = .ok (.iload_n j, 1)) (hl : ls[(j : Nat)]? = some (some (.int x))) (hp : pc' = pc + 1) (k : am_W g l M h0 r hf pc' ls (.int x :: st) h) : am_W g l M h0 r hf pc ls (st) h := by
  subst hp
  exact am_pure k (fun C w => lv_iload_n C.1.1 C.1.2.1 hd rfl (C.2.2.2.2.2.2.2.2 _ _ hl) w)
theorem am_iload {i : Nat} {x : Int32} (hd : decode M.2.1 pc = .ok (.iload i, 2)) (hl : ls[i]? = some (some (.int x))) (hp : pc' = pc + 2) (k : am_W g l M h0 r hf pc' ls (.int x :: st) h) : am_W g l M h0 r hf pc ls (st) h := by
  subst hp
  exact am_pure k (fun C w => lv_iload C.1.1 C.1.2.1 hd (C.2.2.2.2.2.2.2.2 _ _ hl) w)
theorem am_lload_n {j : Fin 4} {x : Int64} (hd : decode M.2.1 pc = .ok (.lload_n j, 1)) (hl : ls[(j : Nat)]? = some (some (.long x))) (hp : pc' = pc + 1) (k : am_W g l M h0 r hf pc' ls (.long x :: st) h) : am_W g l M h0 r hf pc ls (st) h := by
  subst hp
  exact am_pure k (fun C w => lv_lload_n C.1.1 C.1.2.1 hd rfl (C.2.2.2.2.2.2.2.2 _ _ hl) w)
theorem am_lload {i : Nat} {x : Int64} (hd : decode M.2.1 pc = .ok (.lload i, 2)) (hl : ls[i]? = some (some (.long x))) (hp : pc' = pc + 2) (k : am_W g l M h0 r hf pc' ls (.long x :: st) h) : am_W g l M h0 r hf pc ls (st) h := by
  subst hp
  exact am_pure k (fun C w => lv_lload C.1.1 C.1.2.1 hd (C.2.2.2.2.2.2.2.2 _ _ hl) w)
theorem am_aload_n {j : Fin 4} {x : Nat} (hd : decode M.2.1 pc = .ok (.aload_n j, 1)) (hl : ls[(j : Nat)]? = some (some (.ref x))) (hp : pc' = pc + 1) (k : am_W g l M h0 r hf pc' ls (.ref x :: st) h) : am_W g l M h0 r hf pc ls (st) h := by
  subst hp
  exact am_pure k (fun C w => by
    have hq := C.2.2.2.2.2.2.2.2 _ _ hl
    cases x with
    | zero => exact lv_aload_nN C.1.1 C.1.2.1 hd rfl hq w
    | succ x => exact lv_aload_n C.1.1 C.1.2.1 hd rfl hq w)
theorem am_aload {i : Nat} {x : Nat} (hd : decode M.2.1 pc = .ok (.aload i, 2)) (hl : ls[i]? = some (some (.ref x))) (hp : pc' = pc + 2) (k : am_W g l M h0 r hf pc' ls (.ref x :: st) h) : am_W g l M h0 r hf pc ls (st) h := by
  subst hp
  exact am_pure k (fun C w => by
    have hq := C.2.2.2.2.2.2.2.2 _ _ hl
    cases x with
    | zero => exact lv_aloadN C.1.1 C.1.2.1 hd hq w
    | succ x => exact lv_aload C.1.1 C.1.2.1 hd hq w)
theorem am_xload_n {j : Fin 4} {x : UInt32} (hd : decode M.2.1 pc = .ok (.aload_n j, 1)) (hl : ls[(j : Nat)]? = some (some (.float x))) (hp : pc' = pc + 1) (k : am_W g l M h0 r hf pc' ls (.float x :: st) h) : am_W g l M h0 r hf pc ls (st) h := by
  subst hp
  exact am_pure k (fun C w => lv_aload_n C.1.1 C.1.2.1 hd rfl (C.2.2.2.2.2.2.2.2 _ _ hl) w)
theorem am_iadd {x y : Int32} (hd : decode M.2.1 pc = .ok (.iadd, 1)) (hp : pc' = pc + 1) (k : am_W g l M h0 r hf pc' ls (.int (x + y) :: st) h) : am_W g l M h0 r hf pc ls (.int y :: .int x :: st) h := by
  subst hp
  exact am_pure k (fun C w => lv_iadd C.1.1 C.1.2.1 hd w)
theorem am_isub {x y : Int32} (hd : decode M.2.1 pc = .ok (.isub, 1)) (hp : pc' = pc + 1) (k : am_W g l M h0 r hf pc' ls (.int (x - y) :: st) h) : am_W g l M h0 r hf pc ls (.int y :: .int x :: st) h := by
  subst hp
  exact am_pure k (fun C w => lv_isub C.1.1 C.1.2.1 hd w)
theorem am_imul {x y : Int32} (hd : decode M.2.1 pc = .ok (.imul, 1)) (hp : pc' = pc + 1) (k : am_W g l M h0 r hf pc' ls (.int (x * y) :: st) h) : am_W g l M h0 r hf pc ls (.int y :: .int x :: st) h := by
  subst hp
  exact am_pure k (fun C w => lv_imul C.1.1 C.1.2.1 hd w)
theorem am_iand {x y : Int32} (hd : decode M.2.1 pc = .ok (.iand, 1)) (hp : pc' = pc + 1) (k : am_W g l M h0 r hf pc' ls (.int (x &&& y) :: st) h) : am_W g l M h0 r hf pc ls (.int y :: .int x :: st) h := by
  subst hp
  exact am_pure k (fun C w => lv_iand C.1.1 C.1.2.1 hd w)
theorem am_ior {x y : Int32} (hd : decode M.2.1 pc = .ok (.ior, 1)) (hp : pc' = pc + 1) (k : am_W g l M h0 r hf pc' ls (.int (x ||| y) :: st) h) : am_W g l M h0 r hf pc ls (.int y :: .int x :: st) h := by
  subst hp
  exact am_pure k (fun C w => lv_ior C.1.1 C.1.2.1 hd w)
theorem am_ixor {x y : Int32} (hd : decode M.2.1 pc = .ok (.ixor, 1)) (hp : pc' = pc + 1) (k : am_W g l M h0 r hf pc' ls (.int (x ^^^ y) :: st) h) : am_W g l M h0 r hf pc ls (.int y :: .int x :: st) h := by
  subst hp
  exact am_pure k (fun C w => lv_ixor C.1.1 C.1.2.1 hd w)
theorem am_ishl {x y : Int32} (hd : decode M.2.1 pc = .ok (.ishl, 1)) (hp : pc' = pc + 1) (k : am_W g l M h0 r hf pc' ls (.int (x <<< (y &&& 31)) :: st) h) : am_W g l M h0 r hf pc ls (.int y :: .int x :: st) h := by
  subst hp
  exact am_pure k (fun C w => lv_ishl C.1.1 C.1.2.1 hd w)
theorem am_ishr {x y : Int32} (hd : decode M.2.1 pc = .ok (.ishr, 1)) (hp : pc' = pc + 1) (k : am_W g l M h0 r hf pc' ls (.int (x >>> (y &&& 31)) :: st) h) : am_W g l M h0 r hf pc ls (.int y :: .int x :: st) h := by
  subst hp
  exact am_pure k (fun C w => lv_ishr C.1.1 C.1.2.1 hd w)
theorem am_idiv {x y : Int32} (hd : decode M.2.1 pc = .ok (.idiv, 1)) (hn : ¬ y = 0) (hp : pc' = pc + 1) (k : am_W g l M h0 r hf pc' ls (.int (x / y) :: st) h) : am_W g l M h0 r hf pc ls (.int y :: .int x :: st) h := by
  subst hp
  exact am_pure k (fun C w => lv_idiv C.1.1 C.1.2.1 hd hn w)
theorem am_irem {x y : Int32} (hd : decode M.2.1 pc = .ok (.irem, 1)) (hn : ¬ y = 0) (hp : pc' = pc + 1) (k : am_W g l M h0 r hf pc' ls (.int (x - x / y * y) :: st) h) : am_W g l M h0 r hf pc ls (.int y :: .int x :: st) h := by
  subst hp
  exact am_pure k (fun C w => lv_irem C.1.1 C.1.2.1 hd hn w)
theorem am_ladd {x y : Int64} (hd : decode M.2.1 pc = .ok (.ladd, 1)) (hp : pc' = pc + 1) (k : am_W g l M h0 r hf pc' ls (.long (x + y) :: st) h) : am_W g l M h0 r hf pc ls (.long y :: .long x :: st) h := by
  subst hp
  exact am_pure k (fun C w => lv_ladd C.1.1 C.1.2.1 hd w)
theorem am_lsub {x y : Int64} (hd : decode M.2.1 pc = .ok (.lsub, 1)) (hp : pc' = pc + 1) (k : am_W g l M h0 r hf pc' ls (.long (x - y) :: st) h) : am_W g l M h0 r hf pc ls (.long y :: .long x :: st) h := by
  subst hp
  exact am_pure k (fun C w => lv_lsub C.1.1 C.1.2.1 hd w)
theorem am_lmul {x y : Int64} (hd : decode M.2.1 pc = .ok (.lmul, 1)) (hp : pc' = pc + 1) (k : am_W g l M h0 r hf pc' ls (.long (x * y) :: st) h) : am_W g l M h0 r hf pc ls (.long y :: .long x :: st) h := by
  subst hp
  exact am_pure k (fun C w => lv_lmul C.1.1 C.1.2.1 hd w)
theorem am_land {x y : Int64} (hd : decode M.2.1 pc = .ok (.land, 1)) (hp : pc' = pc + 1) (k : am_W g l M h0 r hf pc' ls (.long (x &&& y) :: st) h) : am_W g l M h0 r hf pc ls (.long y :: .long x :: st) h := by
  subst hp
  exact am_pure k (fun C w => lv_land C.1.1 C.1.2.1 hd w)
theorem am_lor {x y : Int64} (hd : decode M.2.1 pc = .ok (.lor, 1)) (hp : pc' = pc + 1) (k : am_W g l M h0 r hf pc' ls (.long (x ||| y) :: st) h) : am_W g l M h0 r hf pc ls (.long y :: .long x :: st) h := by
  subst hp
  exact am_pure k (fun C w => lv_lor C.1.1 C.1.2.1 hd w)
theorem am_lxor {x y : Int64} (hd : decode M.2.1 pc = .ok (.lxor, 1)) (hp : pc' = pc + 1) (k : am_W g l M h0 r hf pc' ls (.long (x ^^^ y) :: st) h) : am_W g l M h0 r hf pc ls (.long y :: .long x :: st) h := by
  subst hp
  exact am_pure k (fun C w => lv_lxor C.1.1 C.1.2.1 hd w)
theorem am_ldiv {x y : Int64} (hd : decode M.2.1 pc = .ok (.ldiv, 1)) (hn : ¬ y = 0) (hp : pc' = pc + 1) (k : am_W g l M h0 r hf pc' ls (.long (x / y) :: st) h) : am_W g l M h0 r hf pc ls (.long y :: .long x :: st) h := by
  subst hp
  exact am_pure k (fun C w => lv_ldiv C.1.1 C.1.2.1 hd hn w)
theorem am_lshl {x : Int64} {y : Int32} (hd : decode M.2.1 pc = .ok (.lshl, 1)) (hp : pc' = pc + 1) (k : am_W g l M h0 r hf pc' ls (.long (x <<< (y.toInt64 &&& 63)) :: st) h) : am_W g l M h0 r hf pc ls (.int y :: .long x :: st) h := by
  subst hp
  exact am_pure k (fun C w => lv_lshl C.1.1 C.1.2.1 hd rfl w)
theorem am_lshr {x : Int64} {y : Int32} (hd : decode M.2.1 pc = .ok (.lshr, 1)) (hp : pc' = pc + 1) (k : am_W g l M h0 r hf pc' ls (.long (x >>> (y.toInt64 &&& 63)) :: st) h) : am_W g l M h0 r hf pc ls (.int y :: .long x :: st) h := by
  subst hp
  exact am_pure k (fun C w => lv_lshr C.1.1 C.1.2.1 hd rfl w)
theorem am_i2l {x : Int32} (hd : decode M.2.1 pc = .ok (.i2l, 1)) (hp : pc' = pc + 1) (k : am_W g l M h0 r hf pc' ls (.long x.toInt64 :: st) h) : am_W g l M h0 r hf pc ls (.int x :: st) h := by
  subst hp
  exact am_pure k (fun C w => lv_i2l C.1.1 C.1.2.1 hd rfl w)
theorem am_l2i {x : Int64} (hd : decode M.2.1 pc = .ok (.l2i, 1)) (hp : pc' = pc + 1) (k : am_W g l M h0 r hf pc' ls (.int x.toInt32 :: st) h) : am_W g l M h0 r hf pc ls (.long x :: st) h := by
  subst hp
  exact am_pure k (fun C w => lv_l2i C.1.1 C.1.2.1 hd rfl w)
theorem am_lcmp {x y : Int64} (hd : decode M.2.1 pc = .ok (.lcmp, 1)) (hp : pc' = pc + 1) (k : am_W g l M h0 r hf pc' ls (.int (lg_cmp x y) :: st) h) : am_W g l M h0 r hf pc ls (.long y :: .long x :: st) h := by
  subst hp
  exact am_pure k (fun C w => W.lcmp C.1.1 C.1.2.1 hd w)
theorem am_ineg {x : Int32} (hd : decode M.2.1 pc = .ok (.ineg, 1)) (hp : pc' = pc + 1) (k : am_W g l M h0 r hf pc' ls (.int (-x) :: st) h) : am_W g l M h0 r hf pc ls (.int x :: st) h := by
  subst hp
  exact am_pure k (fun C w => lv_ineg C.1.1 C.1.2.1 hd w)
theorem am_cat1 {v : Value} (hv : am_isL (some v) = false) : (am_v g v).category = 1 := by
  rcases lv_cat (am_v g v) with h | h
  · exact h
  · have := am_cat (g := g) v
    rw [h, hv] at this
    cases this
theorem am_dup {v : Value} (hd : decode M.2.1 pc = .ok (.dup, 1)) (hv : am_isL (some v) = false) (hp : pc' = pc + 1) (k : am_W g l M h0 r hf pc' ls (v :: v :: st) h) : am_W g l M h0 r hf pc ls (v :: st) h := by
  subst hp
  exact am_pure k (fun C w => lv_dup C.1.1 C.1.2.1 hd (am_cat1 hv) w)
theorem am_pop {v : Value} (hd : decode M.2.1 pc = .ok (.pop, 1)) (hv : am_isL (some v) = false) (hp : pc' = pc + 1) (k : am_W g l M h0 r hf pc' ls (st) h) : am_W g l M h0 r hf pc ls (v :: st) h := by
  subst hp
  exact am_pure k (fun C w => lv_pop C.1.1 C.1.2.1 hd (am_cat1 hv) w)
theorem am_dup2 {v w : Value} (hd : decode M.2.1 pc = .ok (.dup2, 1)) (hv : am_isL (some v) = false) (hw : am_isL (some w) = false) (hp : pc' = pc + 1) (k : am_W g l M h0 r hf pc' ls (v :: w :: v :: w :: st) h) : am_W g l M h0 r hf pc ls (v :: w :: st) h := by
  subst hp
  exact am_pure k (fun C w => lv_dup2_11 C.1.1 C.1.2.1 hd (am_cat1 hv) (am_cat1 hw) w)
theorem am_istore {i : Nat} {x : Int32} (hd : decode M.2.1 pc = .ok (.istore i, 2)) (hn : i < M.2.2.1) (hs : am_sto ls i (.int x) = ls') (hp : pc' = pc + 2) (k : am_W g l M h0 r hf pc' ls' st h) : am_W g l M h0 r hf pc ls (.int x :: st) h := by
  subst hp
  subst hs
  refine ⟨k.1, fun h1 p e s m args below meth c lsc H locs C => ?_⟩
  exact lv_istore C.1.1 C.1.2.1 hd C.2.2.2.2.2.2.has hn rfl (fun lsc' hl => k.2 h1 p e s m args below meth c lsc' H locs ⟨C.1, C.2.1, C.2.2.1, C.2.2.2.1, C.2.2.2.2.1, C.2.2.2.2.2.1, am_L.sto1 (v := .int x) hl⟩)
theorem am_istore_n {j : Fin 4} {x : Int32} (hd : decode M.2.1 pc = .ok (.istore_n j, 1)) (hn : (j : Nat) < M.2.2.1) (hs : am_sto ls (j : Nat) (.int x) = ls') (hp : pc' = pc + 1) (k : am_W g l M h0 r hf pc' ls' st h) : am_W g l M h0 r hf pc ls (.int x :: st) h := by
  subst hp
  subst hs
  refine ⟨k.1, fun h1 p e s m args below meth c lsc H locs C => ?_⟩
  exact lv_istore_n C.1.1 C.1.2.1 hd rfl C.2.2.2.2.2.2.has hn rfl (fun lsc' hl => k.2 h1 p e s m args below meth c lsc' H locs ⟨C.1, C.2.1, C.2.2.1, C.2.2.2.1, C.2.2.2.2.1, C.2.2.2.2.2.1, am_L.sto1 (v := .int x) hl⟩)
theorem am_lstore {i : Nat} {x : Int64} (hd : decode M.2.1 pc = .ok (.lstore i, 2)) (hn : i + 1 < M.2.2.1) (hs : am_sto2 ls i (.long x) = ls') (hp : pc' = pc + 2) (k : am_W g l M h0 r hf pc' ls' st h) : am_W g l M h0 r hf pc ls (.long x :: st) h := by
  subst hp
  subst hs
  refine ⟨k.1, fun h1 p e s m args below meth c lsc H locs C => ?_⟩
  exact lv_lstore C.1.1 C.1.2.1 hd C.2.2.2.2.2.2.has hn rfl (fun lsc' hl => k.2 h1 p e s m args below meth c lsc' H locs ⟨C.1, C.2.1, C.2.2.1, C.2.2.2.1, C.2.2.2.2.1, C.2.2.2.2.2.1, am_L.sto2 (v := .long x) hl⟩)
theorem am_lstore_n {j : Fin 4} {x : Int64} (hd : decode M.2.1 pc = .ok (.lstore_n j, 1)) (hn : (j : Nat) + 1 < M.2.2.1) (hs : am_sto2 ls (j : Nat) (.long x) = ls') (hp : pc' = pc + 1) (k : am_W g l M h0 r hf pc' ls' st h) : am_W g l M h0 r hf pc ls (.long x :: st) h := by
  subst hp
  subst hs
  refine ⟨k.1, fun h1 p e s m args below meth c lsc H locs C => ?_⟩
  exact lv_lstore_n C.1.1 C.1.2.1 hd rfl C.2.2.2.2.2.2.has hn rfl (fun lsc' hl => k.2 h1 p e s m args below meth c lsc' H locs ⟨C.1, C.2.1, C.2.2.1, C.2.2.2.1, C.2.2.2.2.1, C.2.2.2.2.2.1, am_L.sto2 (v := .long x) hl⟩)
theorem am_astore {i : Nat} {x : Nat} (hd : decode M.2.1 pc = .ok (.astore i, 2)) (hn : i < M.2.2.1) (hs : am_sto ls i (.ref x) = ls') (hp : pc' = pc + 2) (k : am_W g l M h0 r hf pc' ls' st h) : am_W g l M h0 r hf pc ls (.ref x :: st) h := by
  subst hp
  subst hs
  refine ⟨k.1, fun h1 p e s m args below meth c lsc H locs C => ?_⟩
  cases x with
  | zero => exact lv_astoreN C.1.1 C.1.2.1 hd C.2.2.2.2.2.2.has hn rfl (fun lsc' hl => k.2 h1 p e s m args below meth c lsc' H locs ⟨C.1, C.2.1, C.2.2.1, C.2.2.2.1, C.2.2.2.2.1, C.2.2.2.2.2.1, am_L.sto1 (v := .ref 0) hl⟩)
  | succ x => exact lv_astore C.1.1 C.1.2.1 hd C.2.2.2.2.2.2.has hn rfl (fun lsc' hl => k.2 h1 p e s m args below meth c lsc' H locs ⟨C.1, C.2.1, C.2.2.1, C.2.2.2.1, C.2.2.2.2.1, C.2.2.2.2.2.1, am_L.sto1 (v := .ref (x + 1)) hl⟩)
theorem am_astore_n {j : Fin 4} {x : Nat} (hd : decode M.2.1 pc = .ok (.astore_n j, 1)) (hn : (j : Nat) < M.2.2.1) (hs : am_sto ls (j : Nat) (.ref x) = ls') (hp : pc' = pc + 1) (k : am_W g l M h0 r hf pc' ls' st h) : am_W g l M h0 r hf pc ls (.ref x :: st) h := by
  subst hp
  subst hs
  refine ⟨k.1, fun h1 p e s m args below meth c lsc H locs C => ?_⟩
  cases x with
  | zero => exact lv_astore_nN C.1.1 C.1.2.1 hd rfl C.2.2.2.2.2.2.has hn rfl (fun lsc' hl => k.2 h1 p e s m args below meth c lsc' H locs ⟨C.1, C.2.1, C.2.2.1, C.2.2.2.1, C.2.2.2.2.1, C.2.2.2.2.2.1, am_L.sto1 (v := .ref 0) hl⟩)
  | succ x => exact lv_astore_n C.1.1 C.1.2.1 hd rfl C.2.2.2.2.2.2.has hn rfl (fun lsc' hl => k.2 h1 p e s m args below meth c lsc' H locs ⟨C.1, C.2.1, C.2.2.1, C.2.2.2.1, C.2.2.2.2.1, C.2.2.2.2.2.1, am_L.sto1 (v := .ref (x + 1)) hl⟩)
theorem am_iinc {i : Nat} {n : Int} {x v : Int32} (hd : decode M.2.1 pc = .ok (.iinc i n, 3)) (hl : ls[i]? = some (some (.int x))) (hv : x + Int32.ofInt n = v) (hn : i < M.2.2.1) (hs : am_sto ls i (.int v) = ls') (hp : pc' = pc + 3) (k : am_W g l M h0 r hf pc' ls' st h) : am_W g l M h0 r hf pc ls st h := by
  subst hp
  subst hs
  refine ⟨k.1, fun h1 p e s m args below meth c lsc H locs C => ?_⟩
  obtain ⟨q, hq⟩ := List.getElem?_of_mem (am_li_mem.mpr ⟨_, hl, rfl⟩ : (i, am_v g (.int x)) ∈ am_li g ls)
  exact lv_iinc C.1.1 C.1.2.1 hd C.2.2.2.2.2.2.has hq hv hn rfl (fun lsc' hl2 => k.2 h1 p e s m args below meth c lsc' H locs ⟨C.1, C.2.1, C.2.2.1, C.2.2.2.1, C.2.2.2.2.1, C.2.2.2.2.2.1, am_L.sto1 (v := .int v) hl2⟩)
theorem am_iincW {i : Nat} {n : Int} {x v : Int32} (hd : decode M.2.1 pc = .ok (.iinc i n, 6)) (hl : ls[i]? = some (some (.int x))) (hv : x + Int32.ofInt n = v) (hn : i < M.2.2.1) (hs : am_sto ls i (.int v) = ls') (hp : pc' = pc + 6) (k : am_W g l M h0 r hf pc' ls' st h) : am_W g l M h0 r hf pc ls st h := by
  subst hp
  subst hs
  refine ⟨k.1, fun h1 p e s m args below meth c lsc H locs C => ?_⟩
  obtain ⟨q, hq⟩ := List.getElem?_of_mem (am_li_mem.mpr ⟨_, hl, rfl⟩ : (i, am_v g (.int x)) ∈ am_li g ls)
  exact lv_iincW C.1.1 C.1.2.1 hd C.2.2.2.2.2.2.has hq hv hn rfl (fun lsc' hl2 => k.2 h1 p e s m args below meth c lsc' H locs ⟨C.1, C.2.1, C.2.2.1, C.2.2.2.1, C.2.2.2.2.1, C.2.2.2.2.2.1, am_L.sto1 (v := .int v) hl2⟩)
theorem am_if_eq_t {x : Int32} {off : Int} (hd : decode M.2.1 pc = .ok (.ifCond .eq off, 3)) (ht : (pc : Int) + off = (pc' : Int)) (hc : x = 0) (k : am_W g l M h0 r hf pc' ls st h) : am_W g l M h0 r hf pc ls (.int x :: st) h :=
  am_pure k (fun C w => lv_if_eq C.1.1 C.1.2.1 hd ht (fun _ => w) (fun q => absurd hc q))
theorem am_if_eq_f {x : Int32} {off : Int} {tgt : Nat} (hd : decode M.2.1 pc = .ok (.ifCond .eq off, 3)) (ht : (pc : Int) + off = (tgt : Int)) (hc : ¬ x = 0) (hp : pc' = pc + 3) (k : am_W g l M h0 r hf pc' ls st h) : am_W g l M h0 r hf pc ls (.int x :: st) h := by
  subst hp
  exact am_pure k (fun C w => lv_if_eq C.1.1 C.1.2.1 hd ht (fun q => absurd q hc) (fun _ => w))
theorem am_icmp_eq_t {x y : Int32} {off : Int} (hd : decode M.2.1 pc = .ok (.if_icmp .eq off, 3)) (ht : (pc : Int) + off = (pc' : Int)) (hc : x = y) (k : am_W g l M h0 r hf pc' ls st h) : am_W g l M h0 r hf pc ls (.int y :: .int x :: st) h :=
  am_pure k (fun C w => lv_icmp_eq C.1.1 C.1.2.1 hd ht (fun _ => w) (fun q => absurd hc q))
theorem am_icmp_eq_f {x y : Int32} {off : Int} {tgt : Nat} (hd : decode M.2.1 pc = .ok (.if_icmp .eq off, 3)) (ht : (pc : Int) + off = (tgt : Int)) (hc : ¬ x = y) (hp : pc' = pc + 3) (k : am_W g l M h0 r hf pc' ls st h) : am_W g l M h0 r hf pc ls (.int y :: .int x :: st) h := by
  subst hp
  exact am_pure k (fun C w => lv_icmp_eq C.1.1 C.1.2.1 hd ht (fun q => absurd q hc) (fun _ => w))
theorem am_if_ne_t {x : Int32} {off : Int} (hd : decode M.2.1 pc = .ok (.ifCond .ne off, 3)) (ht : (pc : Int) + off = (pc' : Int)) (hc : ¬ x = 0) (k : am_W g l M h0 r hf pc' ls st h) : am_W g l M h0 r hf pc ls (.int x :: st) h :=
  am_pure k (fun C w => lv_if_ne C.1.1 C.1.2.1 hd ht (fun _ => w) (fun q => absurd q hc))
theorem am_if_ne_f {x : Int32} {off : Int} {tgt : Nat} (hd : decode M.2.1 pc = .ok (.ifCond .ne off, 3)) (ht : (pc : Int) + off = (tgt : Int)) (hc : x = 0) (hp : pc' = pc + 3) (k : am_W g l M h0 r hf pc' ls st h) : am_W g l M h0 r hf pc ls (.int x :: st) h := by
  subst hp
  exact am_pure k (fun C w => lv_if_ne C.1.1 C.1.2.1 hd ht (fun q => absurd hc q) (fun _ => w))
theorem am_icmp_ne_t {x y : Int32} {off : Int} (hd : decode M.2.1 pc = .ok (.if_icmp .ne off, 3)) (ht : (pc : Int) + off = (pc' : Int)) (hc : ¬ x = y) (k : am_W g l M h0 r hf pc' ls st h) : am_W g l M h0 r hf pc ls (.int y :: .int x :: st) h :=
  am_pure k (fun C w => lv_icmp_ne C.1.1 C.1.2.1 hd ht (fun _ => w) (fun q => absurd q hc))
theorem am_icmp_ne_f {x y : Int32} {off : Int} {tgt : Nat} (hd : decode M.2.1 pc = .ok (.if_icmp .ne off, 3)) (ht : (pc : Int) + off = (tgt : Int)) (hc : x = y) (hp : pc' = pc + 3) (k : am_W g l M h0 r hf pc' ls st h) : am_W g l M h0 r hf pc ls (.int y :: .int x :: st) h := by
  subst hp
  exact am_pure k (fun C w => lv_icmp_ne C.1.1 C.1.2.1 hd ht (fun q => absurd hc q) (fun _ => w))
theorem am_if_lt_t {x : Int32} {off : Int} (hd : decode M.2.1 pc = .ok (.ifCond .lt off, 3)) (ht : (pc : Int) + off = (pc' : Int)) (hc : x < 0) (k : am_W g l M h0 r hf pc' ls st h) : am_W g l M h0 r hf pc ls (.int x :: st) h :=
  am_pure k (fun C w => lv_if_lt C.1.1 C.1.2.1 hd ht (fun _ => w) (fun q => absurd hc q))
theorem am_if_lt_f {x : Int32} {off : Int} {tgt : Nat} (hd : decode M.2.1 pc = .ok (.ifCond .lt off, 3)) (ht : (pc : Int) + off = (tgt : Int)) (hc : ¬ x < 0) (hp : pc' = pc + 3) (k : am_W g l M h0 r hf pc' ls st h) : am_W g l M h0 r hf pc ls (.int x :: st) h := by
  subst hp
  exact am_pure k (fun C w => lv_if_lt C.1.1 C.1.2.1 hd ht (fun q => absurd q hc) (fun _ => w))
theorem am_icmp_lt_t {x y : Int32} {off : Int} (hd : decode M.2.1 pc = .ok (.if_icmp .lt off, 3)) (ht : (pc : Int) + off = (pc' : Int)) (hc : x < y) (k : am_W g l M h0 r hf pc' ls st h) : am_W g l M h0 r hf pc ls (.int y :: .int x :: st) h :=
  am_pure k (fun C w => lv_icmp_lt C.1.1 C.1.2.1 hd ht (fun _ => w) (fun q => absurd hc q))
theorem am_icmp_lt_f {x y : Int32} {off : Int} {tgt : Nat} (hd : decode M.2.1 pc = .ok (.if_icmp .lt off, 3)) (ht : (pc : Int) + off = (tgt : Int)) (hc : ¬ x < y) (hp : pc' = pc + 3) (k : am_W g l M h0 r hf pc' ls st h) : am_W g l M h0 r hf pc ls (.int y :: .int x :: st) h := by
  subst hp
  exact am_pure k (fun C w => lv_icmp_lt C.1.1 C.1.2.1 hd ht (fun q => absurd q hc) (fun _ => w))
theorem am_if_ge_t {x : Int32} {off : Int} (hd : decode M.2.1 pc = .ok (.ifCond .ge off, 3)) (ht : (pc : Int) + off = (pc' : Int)) (hc : 0 ≤ x) (k : am_W g l M h0 r hf pc' ls st h) : am_W g l M h0 r hf pc ls (.int x :: st) h :=
  am_pure k (fun C w => lv_if_ge C.1.1 C.1.2.1 hd ht (fun _ => w) (fun q => absurd hc q))
theorem am_if_ge_f {x : Int32} {off : Int} {tgt : Nat} (hd : decode M.2.1 pc = .ok (.ifCond .ge off, 3)) (ht : (pc : Int) + off = (tgt : Int)) (hc : ¬ 0 ≤ x) (hp : pc' = pc + 3) (k : am_W g l M h0 r hf pc' ls st h) : am_W g l M h0 r hf pc ls (.int x :: st) h := by
  subst hp
  exact am_pure k (fun C w => lv_if_ge C.1.1 C.1.2.1 hd ht (fun q => absurd q hc) (fun _ => w))
theorem am_icmp_ge_t {x y : Int32} {off : Int} (hd : decode M.2.1 pc = .ok (.if_icmp .ge off, 3)) (ht : (pc : Int) + off = (pc' : Int)) (hc : y ≤ x) (k : am_W g l M h0 r hf pc' ls st h) : am_W g l M h0 r hf pc ls (.int y :: .int x :: st) h :=
  am_pure k (fun C w => lv_icmp_ge C.1.1 C.1.2.1 hd ht (fun _ => w) (fun q => absurd hc q))
theorem am_icmp_ge_f {x y : Int32} {off : Int} {tgt : Nat} (hd : decode M.2.1 pc = .ok (.if_icmp .ge off, 3)) (ht : (pc : Int) + off = (tgt : Int)) (hc : ¬ y ≤ x) (hp : pc' = pc + 3) (k : am_W g l M h0 r hf pc' ls st h) : am_W g l M h0 r hf pc ls (.int y :: .int x :: st) h := by
  subst hp
  exact am_pure k (fun C w => lv_icmp_ge C.1.1 C.1.2.1 hd ht (fun q => absurd q hc) (fun _ => w))
theorem am_if_gt_t {x : Int32} {off : Int} (hd : decode M.2.1 pc = .ok (.ifCond .gt off, 3)) (ht : (pc : Int) + off = (pc' : Int)) (hc : 0 < x) (k : am_W g l M h0 r hf pc' ls st h) : am_W g l M h0 r hf pc ls (.int x :: st) h :=
  am_pure k (fun C w => lv_if_gt C.1.1 C.1.2.1 hd ht (fun _ => w) (fun q => absurd hc q))
theorem am_if_gt_f {x : Int32} {off : Int} {tgt : Nat} (hd : decode M.2.1 pc = .ok (.ifCond .gt off, 3)) (ht : (pc : Int) + off = (tgt : Int)) (hc : ¬ 0 < x) (hp : pc' = pc + 3) (k : am_W g l M h0 r hf pc' ls st h) : am_W g l M h0 r hf pc ls (.int x :: st) h := by
  subst hp
  exact am_pure k (fun C w => lv_if_gt C.1.1 C.1.2.1 hd ht (fun q => absurd q hc) (fun _ => w))
theorem am_icmp_gt_t {x y : Int32} {off : Int} (hd : decode M.2.1 pc = .ok (.if_icmp .gt off, 3)) (ht : (pc : Int) + off = (pc' : Int)) (hc : y < x) (k : am_W g l M h0 r hf pc' ls st h) : am_W g l M h0 r hf pc ls (.int y :: .int x :: st) h :=
  am_pure k (fun C w => lv_icmp_gt C.1.1 C.1.2.1 hd ht (fun _ => w) (fun q => absurd hc q))
theorem am_icmp_gt_f {x y : Int32} {off : Int} {tgt : Nat} (hd : decode M.2.1 pc = .ok (.if_icmp .gt off, 3)) (ht : (pc : Int) + off = (tgt : Int)) (hc : ¬ y < x) (hp : pc' = pc + 3) (k : am_W g l M h0 r hf pc' ls st h) : am_W g l M h0 r hf pc ls (.int y :: .int x :: st) h := by
  subst hp
  exact am_pure k (fun C w => lv_icmp_gt C.1.1 C.1.2.1 hd ht (fun q => absurd q hc) (fun _ => w))
theorem am_if_le_t {x : Int32} {off : Int} (hd : decode M.2.1 pc = .ok (.ifCond .le off, 3)) (ht : (pc : Int) + off = (pc' : Int)) (hc : x ≤ 0) (k : am_W g l M h0 r hf pc' ls st h) : am_W g l M h0 r hf pc ls (.int x :: st) h :=
  am_pure k (fun C w => lv_if_le C.1.1 C.1.2.1 hd ht (fun _ => w) (fun q => absurd hc q))
theorem am_if_le_f {x : Int32} {off : Int} {tgt : Nat} (hd : decode M.2.1 pc = .ok (.ifCond .le off, 3)) (ht : (pc : Int) + off = (tgt : Int)) (hc : ¬ x ≤ 0) (hp : pc' = pc + 3) (k : am_W g l M h0 r hf pc' ls st h) : am_W g l M h0 r hf pc ls (.int x :: st) h := by
  subst hp
  exact am_pure k (fun C w => lv_if_le C.1.1 C.1.2.1 hd ht (fun q => absurd q hc) (fun _ => w))
theorem am_icmp_le_t {x y : Int32} {off : Int} (hd : decode M.2.1 pc = .ok (.if_icmp .le off, 3)) (ht : (pc : Int) + off = (pc' : Int)) (hc : x ≤ y) (k : am_W g l M h0 r hf pc' ls st h) : am_W g l M h0 r hf pc ls (.int y :: .int x :: st) h :=
  am_pure k (fun C w => lv_icmp_le C.1.1 C.1.2.1 hd ht (fun _ => w) (fun q => absurd hc q))
theorem am_icmp_le_f {x y : Int32} {off : Int} {tgt : Nat} (hd : decode M.2.1 pc = .ok (.if_icmp .le off, 3)) (ht : (pc : Int) + off = (tgt : Int)) (hc : ¬ x ≤ y) (hp : pc' = pc + 3) (k : am_W g l M h0 r hf pc' ls st h) : am_W g l M h0 r hf pc ls (.int y :: .int x :: st) h := by
  subst hp
  exact am_pure k (fun C w => lv_icmp_le C.1.1 C.1.2.1 hd ht (fun q => absurd q hc) (fun _ => w))
theorem am_goto {off : Int} (hd : decode M.2.1 pc = .ok (.goto off, 3)) (ht : (pc : Int) + off = (pc' : Int)) (k : am_W g l M h0 r hf pc' ls st h) : am_W g l M h0 r hf pc ls st h :=
  am_pure k (fun C w => lv_goto C.1.1 C.1.2.1 hd ht w)
theorem am_ifnull_t {off : Int} {x : Nat} (hd : decode M.2.1 pc = .ok (.ifnull off, 3)) (ht : (pc : Int) + off = (pc' : Int)) (hc : x = 0) (k : am_W g l M h0 r hf pc' ls st h) : am_W g l M h0 r hf pc ls (.ref x :: st) h := by
  subst hc
  exact am_pure k (fun C w => lv_ifnullN C.1.1 C.1.2.1 hd ht w)
theorem am_ifnull_f {off : Int} {x : Nat} (hd : decode M.2.1 pc = .ok (.ifnull off, 3)) (hc : ¬ x = 0) (hp : pc' = pc + 3) (k : am_W g l M h0 r hf pc' ls st h) : am_W g l M h0 r hf pc ls (.ref x :: st) h := by
  subst hp
  cases x with
  | zero => exact absurd rfl hc
  | succ x => exact am_pure k (fun C w => lv_ifnull C.1.1 C.1.2.1 hd w)
theorem am_ifnonnull_f {off : Int} {x : Nat} (hd : decode M.2.1 pc = .ok (.ifnonnull off, 3)) (hc : x = 0) (hp : pc' = pc + 3) (k : am_W g l M h0 r hf pc' ls st h) : am_W g l M h0 r hf pc ls (.ref x :: st) h := by
  subst hp
  subst hc
  exact am_pure k (fun C w => lv_ifnonnullN C.1.1 C.1.2.1 hd w)
theorem am_ifnonnull_t {off : Int} {x : Nat} (hd : decode M.2.1 pc = .ok (.ifnonnull off, 3)) (ht : (pc : Int) + off = (pc' : Int)) (hc : ¬ x = 0) (k : am_W g l M h0 r hf pc' ls st h) : am_W g l M h0 r hf pc ls (.ref x :: st) h := by
  cases x with
  | zero => exact absurd rfl hc
  | succ x => exact am_pure k (fun C w => lv_ifnonnull C.1.1 C.1.2.1 hd ht w)
theorem am_tableOut {dflt lo hi : Int} {offs : Array Int} {len : Nat} {x : Int32} (hd : decode M.2.1 pc = .ok (.tableswitch dflt lo hi offs, len)) (hc : x.toInt < lo ∨ hi < x.toInt) (ht : (pc : Int) + dflt = (pc' : Int)) (k : am_W g l M h0 r hf pc' ls st h) : am_W g l M h0 r hf pc ls (.int x :: st) h :=
  am_pure k (fun C w => lv_tableOut C.1.1 C.1.2.1 hd hc ht w)
theorem am_tableIn {dflt lo hi : Int} {offs : Array Int} {len : Nat} {x c : Int32} {off : Int} (hd : decode M.2.1 pc = .ok (.tableswitch dflt lo hi offs, len)) (hc : x = c) (h1 : ¬ c.toInt < lo) (h2 : ¬ hi < c.toInt) (ho : offs[(c.toInt - lo).toNat]? = some off) (ht : (pc : Int) + off = (pc' : Int)) (k : am_W g l M h0 r hf pc' ls st h) : am_W g l M h0 r hf pc ls (.int x :: st) h := by
  subst hc
  exact am_pure k (fun C w => lv_tableIn C.1.1 C.1.2.1 hd h1 h2 ho ht w)

end AMS
