/-! ROWS OF THE SMALL HEAP: what touches cells -/
def am_obj (n : Nat) (c : Nat) (h : am_H) : Option (List Value) := match am_at h n with
  | some (.inr (.inr (t, fs))) => if t = c then some fs else none
  | _ => none
def am_gi (c k n : Nat) (h : am_H) : Option Int32 := (am_obj n c h).bind fun fs => match fs[k]? with
  | some (.int x) => some x
  | _ => none
def am_gr (c k n : Nat) (h : am_H) : Option Nat := (am_obj n c h).bind fun fs => match fs[k]? with
  | some (.ref x) => some x
  | _ => none
def am_pv (c k n : Nat) (v : Value) (h : am_H) : Option am_H := (am_obj n c h).bind fun fs => if k < fs.length then some (h.set (n - 1) (.inr (.inr (c, fs.set k v)))) else none
def am_pi (c k n : Nat) (x : Int32) (h : am_H) : Option am_H := am_pv c k n (.int x) h
def am_pr (c k n : Nat) (x : Nat) (h : am_H) : Option am_H := am_pv c k n (.ref x) h
def am_z (x : Int32) : Option Int32 := if x = 0 ∨ x = 1 then some x else none
def am_pz (c k n : Nat) (x : Int32) (h : am_H) : Option am_H := (am_z x).bind fun x => am_pv c k n (.int x) h
def am_ia (t n : Nat) (h : am_H) : Option (Nat × (Nat → Int32)) := match am_at h n with
  | some (.inl (t', N, f)) => if t' = t then some (N, f) else none
  | _ => none
def am_ra (t n : Nat) (h : am_H) : Option (Nat × (Nat → Nat)) := match am_at h n with
  | some (.inr (.inl (t', N, f))) => if t' = t then some (N, f) else none
  | _ => none
def am_ix (i : Int32) (N : Nat) : Option Nat := if 0 ≤ i ∧ i.toNatClampNeg < N then some i.toNatClampNeg else none
/-- a row's load and store; t: the kind of the row (0 int, 1 boolean; 2, 3, 4 BLOCKS, VERSIONS, ROWS; 5 rows of int) -/
def am_il (t n : Nat) (i : Int32) (h : am_H) : Option Int32 := (am_ia t n h).bind fun q => (am_ix i q.1).bind fun j => some (q.2 j)
def am_is (t n : Nat) (i x : Int32) (h : am_H) : Option am_H := (am_ia t n h).bind fun q => (am_ix i q.1).bind fun j => some (h.set (n - 1) (.inl (t, q.1, upd q.2 j x)))
def am_zs (t n : Nat) (i x : Int32) (h : am_H) : Option am_H := (am_z x).bind fun x => am_is t n i x h
def am_al (t n : Nat) (i : Int32) (h : am_H) : Option Nat := (am_ra t n h).bind fun q => (am_ix i q.1).bind fun j => some (q.2 j)
def am_as (t c n : Nat) (i : Int32) (x : Nat) (h : am_H) : Option am_H := (am_obj x c h).bind fun _ => (am_ra t n h).bind fun q => (am_ix i q.1).bind fun j => some (h.set (n - 1) (.inr (.inl (t, q.1, va_up q.2 j x))))
def am_ln (n : Nat) (h : am_H) : Option Int32 := match am_at h n with
  | some (.inl (t, N, _)) => if t < 6 then some (Int32.ofNat N) else none
  | some (.inr (.inl (t, N, _))) => if t < 6 then some (Int32.ofNat N) else none
  | _ => none
theorem am_obj_spec {n c : Nat} {h : am_H} {fs : List Value} (hx : am_obj n c h = some fs) : ∃ j, n = j + 1 ∧ h[j]? = some (.inr (.inr (c, fs))) := by
  unfold am_obj at hx
  cases n with
  | zero => cases hx
  | succ j =>
    refine ⟨j, rfl, ?_⟩
    simp only [am_at] at hx
    split at hx
    · next t fs' he =>
      split at hx
      · next ht => cases hx; rw [he, ht]
      · cases hx
    · cases hx
theorem am_ia_spec {n t : Nat} {h : am_H} {q : Nat × (Nat → Int32)} (hx : am_ia t n h = some q) : ∃ j, n = j + 1 ∧ h[j]? = some (.inl (t, q)) := by
  unfold am_ia at hx
  cases n with
  | zero => cases hx
  | succ j =>
    refine ⟨j, rfl, ?_⟩
    simp only [am_at] at hx
    split at hx
    · next t fs' f he =>
      split at hx
      · next ht => cases hx; rw [he, ht]
      · cases hx
    · cases hx
theorem am_ra_spec {n t : Nat} {h : am_H} {q : Nat × (Nat → Nat)} (hx : am_ra t n h = some q) : ∃ j, n = j + 1 ∧ h[j]? = some (.inr (.inl (t, q))) := by
  unfold am_ra at hx
  cases n with
  | zero => cases hx
  | succ j =>
    refine ⟨j, rfl, ?_⟩
    simp only [am_at] at hx
    split at hx
    · next t fs' f he =>
      split at hx
      · next ht => cases hx; rw [he, ht]
      · cases hx
    · cases hx
theorem am_ix_spec {i : Int32} {N j : Nat} (hx : am_ix i N = some j) : j = i.toNatClampNeg ∧ vp_in i N := by
  unfold am_ix at hx
  split at hx
  · next hc =>
    cases hx
    refine ⟨rfl, fun q => ?_⟩
    rcases q with q | q
    · rw [Int32.lt_iff_toInt_lt] at q
      have := Int32.le_iff_toInt_le.mp hc.1
      omega
    · omega
  · cases hx
theorem am_z_spec {x y : Int32} (hx : am_z x = some y) : y = x ∧ (x = 0 ∨ x = 1) := by
  unfold am_z at hx
  split at hx
  · next hc => cases hx; exact ⟨rfl, hc⟩
  · cases hx
/-- words for a field: its class in the table, its link in the class that asks -/
def am_fw (own : String) (idx c k : Nat) : Prop := ∃ q : vw_C, am_cl[c]? = some q ∧ k < q.2.2 ∧ (∀ w ∈ u_ws q.1 q.2.1 q.2.2, w ∈ am_ts) ∧ (Cond.fieldLink own idx (q.2.1 k).1 (q.2.1 k).2.1 (q.2.1 k).2.2.1 ∈ am_ts ∨ ∃ host, Cond.fieldLinkNest own idx (q.2.1 k).1 (q.2.1 k).2.1 (q.2.1 k).2.2.1 host ∈ am_ts)
def am_fx (own : String) (idx c k : Nat) (ty : FieldType) (nm : String) : Prop := ∃ (q : vw_C) (ty0 : Nat → FieldType), am_cl[c]? = some q ∧ k < q.2.2 ∧ (∀ w ∈ u_ws q.1 q.2.1 q.2.2, w ∈ am_ts) ∧ (∀ k, k < q.2.2 → parseFieldDescriptor (q.2.1 k).2.2.1 = some (ty0 k)) ∧ (∀ a, a < q.2.2 → ∀ b, b < q.2.2 → a ≠ b → (q.2.1 a).2.1 ≠ (q.2.1 b).2.1) ∧ ty0 k = ty ∧
  ((Cond.fieldLink own idx (q.2.1 k).1 (q.2.1 k).2.1 (q.2.1 k).2.2.1 ∈ am_ts ∧ ((q.2.1 k).2.2.2 = false ∨ ((q.2.1 k).2.2.2 = true ∧ nm = "<init>" ∧ (q.2.1 k).1 = own))) ∨ ((q.2.1 k).2.2.2 = false ∧ ∃ host, Cond.fieldLinkNest own idx (q.2.1 k).1 (q.2.1 k).2.1 (q.2.1 k).2.2.1 host ∈ am_ts))
section AMT
variable {g : am_G} {l : Launch} {M : am_M} {h0 hf h h1 : am_H} {r : Option Value} {pc pc' : Nat} {ls ls' : List (Option Value)} {st st' : List Value}
theorem am_getv {c k n idx : Nat} {v : Value} {fs : List Value} (hd : decode M.2.1 pc = .ok (.getfield idx, 3)) (hw : am_fw M.1.cls idx c k) (ho : am_obj n c h = some fs) (hv : fs[k]? = some v) (hp : pc' = pc + 3) (kk : am_W g l M h0 r hf pc' ls (v :: st) h) : am_W g l M h0 r hf pc ls (.ref n :: st) h := by
  subst hp
  obtain ⟨j, rfl, hj⟩ := am_obj_spec ho
  obtain ⟨⟨C, T, N⟩, hc, hk, hin, hl⟩ := hw
  refine am_pure kk (fun Cx w => ?_)
  have hws := am_ws_get (g := g) hj
  have hv2 : (fs.map (am_v g))[k]? = some (am_v g v) := by rw [List.getElem?_map, hv]; rfl
  rcases hl with hl | ⟨host, hl⟩
  · exact va_get Cx.1.1 Cx.1.2.1 (own := M.1.cls) (ref := (T k).1) (C := C) (T := T) (N := N) Cx.1.2.2.2.2.2.1 hin Cx.1.2.2.2.2.1 Cx.2.1 Cx.2.2.2.2.1 j hws hc k hk (Cx.1.2.2.2.2.2.1 _ hl) (fun _ h9 => h9) hv2 hd w
  · exact va_getN Cx.1.1 Cx.1.2.1 (own := M.1.cls) (ref := (T k).1) (C := C) (host := host) (T := T) (N := N) Cx.1.2.2.2.2.2.1 hin Cx.1.2.2.2.2.1 Cx.2.1 Cx.2.2.2.2.1 j hws hc k hk (Cx.1.2.2.2.2.2.1 _ hl) (fun _ h9 => h9) hv2 hd w
theorem am_geti {c k n idx : Nat} {x : Int32} (hd : decode M.2.1 pc = .ok (.getfield idx, 3)) (hw : am_fw M.1.cls idx c k) (hx : am_gi c k n h = some x) (hp : pc' = pc + 3) (kk : am_W g l M h0 r hf pc' ls (.int x :: st) h) : am_W g l M h0 r hf pc ls (.ref n :: st) h := by
  obtain ⟨fs, ho, hx⟩ := am_bind hx
  split at hx
  · next he => cases hx; exact am_getv hd hw ho he hp kk
  · cases hx
theorem am_getr {c k n idx : Nat} {x : Nat} (hd : decode M.2.1 pc = .ok (.getfield idx, 3)) (hw : am_fw M.1.cls idx c k) (hx : am_gr c k n h = some x) (hp : pc' = pc + 3) (kk : am_W g l M h0 r hf pc' ls (.ref x :: st) h) : am_W g l M h0 r hf pc ls (.ref n :: st) h := by
  obtain ⟨fs, ho, hx⟩ := am_bind hx
  split at hx
  · next he => cases hx; exact am_getv hd hw ho he hp kk
  · cases hx
/-- a store: as many cells, as many slots -/
theorem am_upd (hlen : h1.length = h.length) (hn : am_n h1 = am_n h) (k : am_W g l M h0 r hf pc' ls st' h1)
    (row : ∀ {p : Program} {e : Env} {s : State} {m : MethodId} {args : Array Value} {below : List Frame} {meth : Method} {c : Code} {lsc : Array Slot} {H : Heap} {locs : List Loc} {cells slots : Nat} {R : Room} {Q : State → Prop}, am_Cx g M h0 p s m args meth c lsc H locs ls h →
      (∀ (H1 : Heap) (locs1 : List Loc), am_R g h1 H1 → va_S (am_A g) s.heap H1 locs1 → W p l e R s m args below meth c H1 locs1 cells slots Q (F0 m pc' lsc (st'.map (am_v g)))) → W p l e R s m args below meth c H locs cells slots Q (F0 m pc lsc (st.map (am_v g)))) : am_W g l M h0 r hf pc ls st h := by
  obtain ⟨k1, k2⟩ := k
  unfold am_le at k1
  rw [hlen, hn] at k1
  refine ⟨k1, fun hle p e s m args below meth c lsc H locs C => row C (fun H1 locs1 hR hS => ?_)⟩
  have := k2 (by unfold am_le; rw [hlen, hn]; exact hle) p e s m args below meth c lsc H1 locs1 ⟨C.1, C.2.1, C.2.2.1, C.2.2.2.1, hR, hS, C.2.2.2.2.2.2⟩
  rw [hlen, hn] at this
  exact this
theorem am_putv {c k n idx : Nat} {v : Value} {ty : FieldType} (hd : decode M.2.1 pc = .ok (.putfield idx, 3)) (hw : am_fx M.1.cls idx c k ty M.1.name) (hx : am_pv c k n v h = some h1) (hnr : narrow ty (am_v g v) = am_v g v) (hft : fits ty (am_v g v) = true) (hp : pc' = pc + 3) (kk : am_W g l M h0 r hf pc' ls st h1) : am_W g l M h0 r hf pc ls (v :: .ref n :: st) h := by
  subst hp
  obtain ⟨fs, ho, hx⟩ := am_bind hx
  obtain ⟨j, rfl, hj⟩ := am_obj_spec ho
  split at hx
  · next hkl =>
    cases hx
    obtain ⟨⟨C, T, N⟩, ty0, hc, hk, hin, hty, hnm, hte, hl⟩ := hw
    have hws := am_ws_get (g := g) hj
    have hjl : j < h.length := (List.getElem?_eq_some_iff.mp hj).1
    have hkl2 : k < (fs.map (am_v g)).length := by rw [List.length_map]; exact hkl
    have hset : (am_ws g h).set j (g.2.2.1 0 + j, .inr (c, (fs.map (am_v g)).set k (am_v g v))) = am_ws g (h.set (j + 1 - 1) (.inr (.inr (c, fs.set k v)))) := by
      rw [← List.map_set]
      exact am_ws_set (c := .inr (.inr (c, fs.set k v)))
    have hpt : parseFieldDescriptor (T k).2.2.1 = some ty := by rw [hty k hk, hte]
    refine am_upd (h1 := h.set (j + 1 - 1) (.inr (.inr (c, fs.set k v)))) (by rw [List.length_set]) (am_n_set hj (by simp [am_sz])) kk (fun Cx w => ?_)
    rcases hl with ⟨hl, hfin | ⟨hfin, hnm2, hdecl⟩⟩ | ⟨hfin, host, hl⟩
    · exact va_put Cx.1.1 Cx.1.2.1 (own := M.1.cls) (ref := (T k).1) (C := C) (T := T) (N := N) Cx.1.2.2.2.2.2.1 hin ty0 hty hnm Cx.1.2.2.2.2.1 Cx.2.1 Cx.2.2.2.2.1 am_ws_D Cx.2.2.2.2.2.1 j hws hc k hk (Cx.1.2.2.2.2.2.1 _ hl) (fun _ h9 => h9) hfin hpt hnr hft hkl2 hd (fun H1 locs1 hP _ hS => w H1 locs1 (by unfold am_R; rw [← hset]; exact hP) hS)
    · exact va_putF Cx.1.1 Cx.1.2.1 (own := M.1.cls) (ref := (T k).1) (C := C) (T := T) (N := N) Cx.1.2.2.2.2.2.1 hin ty0 hty hnm Cx.1.2.2.2.2.1 Cx.2.1 Cx.2.2.2.2.1 am_ws_D Cx.2.2.2.2.2.1 j hws hc k hk (Cx.1.2.2.2.2.2.1 _ hl) (fun _ h9 => h9) hfin (Cx.1.2.2.2.2.2.2.2 hnm2) hdecl hpt hnr hft hkl2 hd (fun H1 locs1 hP _ hS => w H1 locs1 (by unfold am_R; rw [← hset]; exact hP) hS)
    · exact va_putN Cx.1.1 Cx.1.2.1 (own := M.1.cls) (ref := (T k).1) (C := C) (host := host) (T := T) (N := N) Cx.1.2.2.2.2.2.1 hin ty0 hty hnm Cx.1.2.2.2.2.1 Cx.2.1 Cx.2.2.2.2.1 am_ws_D Cx.2.2.2.2.2.1 j hws hc k hk (Cx.1.2.2.2.2.2.1 _ hl) (fun _ h9 => h9) hfin hpt hnr hft hkl2 hd (fun H1 locs1 hP _ hS => w H1 locs1 (by unfold am_R; rw [← hset]; exact hP) hS)
  · cases hx
theorem am_puti {c k n idx : Nat} {x : Int32} (hd : decode M.2.1 pc = .ok (.putfield idx, 3)) (hw : am_fx M.1.cls idx c k .int M.1.name) (hx : am_pi c k n x h = some h1) (hp : pc' = pc + 3) (kk : am_W g l M h0 r hf pc' ls st h1) : am_W g l M h0 r hf pc ls (.int x :: .ref n :: st) h :=
  am_putv hd hw hx rfl rfl hp kk
theorem am_putz {c k n idx : Nat} {x : Int32} (hd : decode M.2.1 pc = .ok (.putfield idx, 3)) (hw : am_fx M.1.cls idx c k .boolean M.1.name) (hx : am_pz c k n x h = some h1) (hp : pc' = pc + 3) (kk : am_W g l M h0 r hf pc' ls st h1) : am_W g l M h0 r hf pc ls (.int x :: .ref n :: st) h := by
  obtain ⟨y, hy, hx⟩ := am_bind hx
  obtain ⟨rfl, hc⟩ := am_z_spec hy
  rcases hc with rfl | rfl <;> exact am_putv hd hw hx rfl rfl hp kk
theorem am_putr {c k n idx x : Nat} {C : String} (hd : decode M.2.1 pc = .ok (.putfield idx, 3)) (hw : am_fx M.1.cls idx c k (.object C) M.1.name) (hx : am_pr c k n x h = some h1) (hp : pc' = pc + 3) (kk : am_W g l M h0 r hf pc' ls st h1) : am_W g l M h0 r hf pc ls (.ref x :: .ref n :: st) h := by
  cases x <;> exact am_putv hd hw hx rfl rfl hp kk
theorem am_puta {c k n idx x : Nat} {ty : FieldType} (hd : decode M.2.1 pc = .ok (.putfield idx, 3)) (hw : am_fx M.1.cls idx c k (.array ty) M.1.name) (hx : am_pr c k n x h = some h1) (hp : pc' = pc + 3) (kk : am_W g l M h0 r hf pc' ls st h1) : am_W g l M h0 r hf pc ls (.ref x :: .ref n :: st) h := by
  cases x <;> exact am_putv hd hw hx rfl rfl hp kk
/-! rows of whole numbers, rows of references -/
theorem am_iald {n : Nat} {i x : Int32} (hd : decode M.2.1 pc = .ok (.iaload, 1)) (hx : am_il 0 n i h = some x) (hp : pc' = pc + 1) (kk : am_W g l M h0 r hf pc' ls (.int x :: st) h) : am_W g l M h0 r hf pc ls (.int i :: .ref n :: st) h := by
  subst hp
  obtain ⟨q, ho, hx⟩ := am_bind hx
  obtain ⟨j, hj, hx⟩ := am_bind hx
  cases hx
  obtain ⟨a, rfl, ha⟩ := am_ia_spec ho
  obtain ⟨rfl, hin⟩ := am_ix_spec hj
  exact am_pure kk (fun Cx w => va_iald Cx.1.1 Cx.1.2.1 Cx.2.1 Cx.2.2.2.2.1 a 0 (am_ws_get (g := g) ha) rfl hin hd w)
theorem am_bald {n : Nat} {i x : Int32} (hd : decode M.2.1 pc = .ok (.baload, 1)) (hx : am_il 1 n i h = some x) (hp : pc' = pc + 1) (kk : am_W g l M h0 r hf pc' ls (.int x :: st) h) : am_W g l M h0 r hf pc ls (.int i :: .ref n :: st) h := by
  subst hp
  obtain ⟨q, ho, hx⟩ := am_bind hx
  obtain ⟨j, hj, hx⟩ := am_bind hx
  cases hx
  obtain ⟨a, rfl, ha⟩ := am_ia_spec ho
  obtain ⟨rfl, hin⟩ := am_ix_spec hj
  exact am_pure kk (fun Cx w => va_zald Cx.1.1 Cx.1.2.1 Cx.2.1 Cx.2.2.2.2.1 a 1 (am_ws_get (g := g) ha) rfl hin hd w)
theorem am_iast {n : Nat} {i x : Int32} (hd : decode M.2.1 pc = .ok (.iastore, 1)) (hx : am_is 0 n i x h = some h1) (hp : pc' = pc + 1) (kk : am_W g l M h0 r hf pc' ls st h1) : am_W g l M h0 r hf pc ls (.int x :: .int i :: .ref n :: st) h := by
  subst hp
  obtain ⟨q, ho, hx⟩ := am_bind hx
  obtain ⟨j, hj, hx⟩ := am_bind hx
  cases hx
  obtain ⟨a, rfl, ha⟩ := am_ia_spec ho
  obtain ⟨rfl, hin⟩ := am_ix_spec hj
  refine am_upd (h1 := h.set (a + 1 - 1) (.inl (0, q.1, upd q.2 i.toNatClampNeg x))) (by rw [List.length_set]) (am_n_set ha rfl) kk (fun Cx w => ?_)
  refine va_iast Cx.1.1 Cx.1.2.1 Cx.2.1 Cx.2.2.2.2.1 am_ws_D Cx.2.2.2.2.2.1 a 0 (am_ws_get (g := g) ha) rfl hin hd (fun H1 locs1 hP _ hS => w H1 locs1 ?_ hS)
  rw [show (.inl (g.2.1 0, q.1, .inl (upd q.2 i.toNatClampNeg x)) : va_E) = am_e g (.inl (0, q.1, upd q.2 i.toNatClampNeg x)) from rfl, am_ws_set] at hP
  exact hP
theorem am_bast {n : Nat} {i x : Int32} (hd : decode M.2.1 pc = .ok (.bastore, 1)) (hx : am_zs 1 n i x h = some h1) (hp : pc' = pc + 1) (kk : am_W g l M h0 r hf pc' ls st h1) : am_W g l M h0 r hf pc ls (.int x :: .int i :: .ref n :: st) h := by
  subst hp
  obtain ⟨hc, hx⟩ : (x = 0 ∨ x = 1) ∧ am_is 1 n i x h = some h1 := by
    unfold am_zs at hx
    obtain ⟨y, hy, hx2⟩ := am_bind hx
    obtain ⟨rfl, hc⟩ := am_z_spec hy
    exact ⟨hc, hx2⟩
  obtain ⟨q, ho, hx⟩ := am_bind hx
  obtain ⟨j, hj, hx⟩ := am_bind hx
  cases hx
  obtain ⟨a, rfl, ha⟩ := am_ia_spec ho
  obtain ⟨rfl, hin⟩ := am_ix_spec hj
  refine am_upd (h1 := h.set (a + 1 - 1) (.inl (1, q.1, upd q.2 i.toNatClampNeg x))) (by rw [List.length_set]) (am_n_set ha rfl) kk (fun Cx w => ?_)
  refine va_zast Cx.1.1 Cx.1.2.1 Cx.2.1 Cx.2.2.2.2.1 am_ws_D Cx.2.2.2.2.2.1 a 1 (am_ws_get (g := g) ha) rfl hin hd (fun H1 locs1 hP _ hS => w H1 locs1 ?_ hS)
  have e : vp_nar .boolean x = x := by rcases hc with rfl | rfl <;> rfl
  rw [e, show (.inl (g.2.1 1, q.1, .inl (upd q.2 i.toNatClampNeg x)) : va_E) = am_e g (.inl (1, q.1, upd q.2 i.toNatClampNeg x)) from rfl, am_ws_set] at hP
  exact hP
/-- a row's kind is one of the six -/
theorem am_tys_at {g : am_G} {t : Nat} (ht : t < 6) : ∃ ty, (am_tys g)[t]? = some (g.2.1 t, ty) := by
  match t, ht with
  | 0, _ => exact ⟨_, rfl⟩
  | 1, _ => exact ⟨_, rfl⟩
  | 2, _ => exact ⟨_, rfl⟩
  | 3, _ => exact ⟨_, rfl⟩
  | 4, _ => exact ⟨_, rfl⟩
  | 5, _ => exact ⟨_, rfl⟩
theorem am_alen {n : Nat} {x : Int32} (hd : decode M.2.1 pc = .ok (.arraylength, 1)) (hx : am_ln n h = some x) (hp : pc' = pc + 1) (kk : am_W g l M h0 r hf pc' ls (.int x :: st) h) : am_W g l M h0 r hf pc ls (.ref n :: st) h := by
  subst hp
  unfold am_ln at hx
  cases n with
  | zero => cases hx
  | succ a =>
    simp only [am_at] at hx
    split at hx
    · next t N f ha =>
      split at hx
      · next ht =>
        cases hx
        obtain ⟨ty, hty⟩ := am_tys_at (g := g) ht
        exact am_pure kk (fun Cx w => va_alen Cx.1.1 Cx.1.2.1 Cx.2.1 Cx.2.2.2.2.1 a t (am_ws_get (g := g) ha) hty rfl hd w)
      · cases hx
    · next t N f ha =>
      split at hx
      · next ht =>
        cases hx
        obtain ⟨ty, hty⟩ := am_tys_at (g := g) ht
        exact am_pure kk (fun Cx w => va_alen Cx.1.1 Cx.1.2.1 Cx.2.1 Cx.2.2.2.2.1 a t (am_ws_get (g := g) ha) hty rfl hd w)
      · cases hx
    · cases hx
theorem am_aald {n : Nat} {i : Int32} {x t : Nat} {C : String} (hd : decode M.2.1 pc = .ok (.aaload, 1)) (ht : (am_tys g)[t]? = some (g.2.1 t, .object C)) (hx : am_al t n i h = some x) (hp : pc' = pc + 1) (kk : am_W g l M h0 r hf pc' ls (.ref x :: st) h) : am_W g l M h0 r hf pc ls (.int i :: .ref n :: st) h := by
  subst hp
  obtain ⟨q, ho, hx⟩ := am_bind hx
  obtain ⟨j, hj, hx⟩ := am_bind hx
  cases hx
  obtain ⟨a, rfl, ha⟩ := am_ra_spec ho
  obtain ⟨rfl, hin⟩ := am_ix_spec hj
  exact am_pure kk (fun Cx w => va_aldq Cx.1.1 Cx.1.2.1 Cx.2.1 Cx.2.2.2.2.1 a t (am_ws_get (g := g) ha) ht hin hd w)
theorem am_aald5 {n : Nat} {i : Int32} {x : Nat} (hd : decode M.2.1 pc = .ok (.aaload, 1)) (hx : am_al 5 n i h = some x) (hp : pc' = pc + 1) (kk : am_W g l M h0 r hf pc' ls (.ref x :: st) h) : am_W g l M h0 r hf pc ls (.int i :: .ref n :: st) h := by
  subst hp
  obtain ⟨q, ho, hx⟩ := am_bind hx
  obtain ⟨j, hj, hx⟩ := am_bind hx
  cases hx
  obtain ⟨a, rfl, ha⟩ := am_ra_spec ho
  obtain ⟨rfl, hin⟩ := am_ix_spec hj
  refine am_pure kk (fun Cx w => ?_)
  have hcell := Cx.2.2.2.2.1 a _ (am_ws_get (g := g) ha)
  have hlt : i.toNatClampNeg < q.1 := Nat.not_le.mp fun z => hin (Or.inr z)
  exact W.aald (v := va_rf (am_o g (q.2 i.toNatClampNeg))) (ty := .array .int) Cx.1.1 Cx.1.2.1 hcell ((Cx.2.1.2 5 _ rfl).1 q.1 (fun j => va_rf (am_o g (q.2 j)))) rfl (fun z => by cases z) (by show ¬ (i < 0 ∨ (arrV _ _ _).slots.size ≤ _); rw [arrV_size]; exact hin) (by show (arrV _ _ _).slots[_]? = _; rw [arrV_read _ _ hlt]) rfl rfl hd w
theorem am_aast {n : Nat} {i : Int32} {x t c : Nat} (hd : decode M.2.1 pc = .ok (.aastore, 1)) (ht : ∃ q, (am_tys g)[t]? = some (g.2.1 t, .object q.1) ∧ am_cl[c]? = some q) (hx : am_as t c n i x h = some h1) (hp : pc' = pc + 1) (kk : am_W g l M h0 r hf pc' ls st h1) : am_W g l M h0 r hf pc ls (.ref x :: .int i :: .ref n :: st) h := by
  subst hp
  obtain ⟨fs, hob, hx⟩ := am_bind hx
  obtain ⟨q, ho, hx⟩ := am_bind hx
  obtain ⟨j, hj, hx⟩ := am_bind hx
  cases hx
  obtain ⟨a, rfl, ha⟩ := am_ra_spec ho
  obtain ⟨b, rfl, hb⟩ := am_obj_spec hob
  obtain ⟨rfl, hin⟩ := am_ix_spec hj
  obtain ⟨qc, ht, hc⟩ := ht
  refine am_upd (h1 := h.set (a + 1 - 1) (.inr (.inl (t, q.1, va_up q.2 i.toNatClampNeg (b + 1))))) (by rw [List.length_set]) (am_n_set ha rfl) kk (fun Cx w => ?_)
  refine va_astq Cx.1.1 Cx.1.2.1 Cx.2.1 Cx.2.2.2.2.1 am_ws_D Cx.2.2.2.2.2.1 a t b c (am_ws_get (g := g) ha) ht (am_ws_get (g := g) hb) hc hin hd (fun H1 locs1 hP _ hS => w H1 locs1 ?_ hS)
  have e : va_up (fun j => am_o g (q.2 j)) i.toNatClampNeg (some (g.2.2.1 0 + b)) = fun j => am_o g (va_up q.2 i.toNatClampNeg (b + 1) j) := by
    funext z
    unfold va_up
    split <;> rfl
  rw [e, show (.inl (g.2.1 t, q.1, .inr (.inr (.inr (.inr (fun j => am_o g (va_up q.2 i.toNatClampNeg (b + 1) j)))))) : va_E) = am_e g (.inr (.inl (t, q.1, va_up q.2 i.toNatClampNeg (b + 1)))) from rfl, am_ws_set] at hP
  exact hP
end AMT
