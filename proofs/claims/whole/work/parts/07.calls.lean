/-! ROWS OF THE SMALL HEAP: entry, calls, ends -/
def am_ct : Value → Nat
  | .long _ => 2
  | .double _ => 2
  | _ => 1
theorem am_ct_v {g : am_G} (v : Value) : (am_v g v).category = am_ct v := by
  cases v with
  | ref n => cases n <;> rfl
  | _ => rfl
def am_ent : List Value → List (Option Value)
  | [] => []
  | v :: vs => match am_isL (some v) with
    | true => some v :: none :: am_ent vs
    | false => some v :: am_ent vs
theorem am_ent_args {g : am_G} : ∀ (vs : List Value) (o : Nat) (i : Nat) (v : Value), (am_ent vs)[i]? = some (some v) → (o + i, am_v g v) ∈ lv_args o (vs.map (am_v g))
  | [], o, i, v, h => by simp [am_ent] at h
  | w :: vs, o, i, v, h => by
    have hc := am_cat (g := g) w
    unfold am_ent at h
    rw [List.map_cons]
    unfold lv_args
    cases hb : am_isL (some w) with
    | true =>
      simp only [hb] at h
      rw [hb] at hc
      rw [if_pos (by simpa using hc)]
      match i, h with
      | 0, h => cases h; exact List.mem_cons_self
      | 1, h => cases h
      | i + 2, h =>
        have := am_ent_args (g := g) vs (o + 2) i v (by simpa using h)
        rw [show o + 2 + i = o + (i + 2) by omega] at this
        exact List.mem_cons_of_mem _ this
    | false =>
      simp only [hb] at h
      rw [hb] at hc
      rw [if_neg (by simpa using hc)]
      match i, h with
      | 0, h => cases h; exact List.mem_cons_self
      | i + 1, h =>
        have := am_ent_args (g := g) vs (o + 1) i v (by simpa using h)
        rw [show o + 1 + i = o + (i + 1) by omega] at this
        exact List.mem_cons_of_mem _ this
theorem am_ent_len {g : am_G} : ∀ (vs : List Value), (lg_sl (vs.map (am_v g))).length = (am_ent vs).length
  | [] => rfl
  | w :: vs => by
    have ih := am_ent_len (g := g) vs
    have hc := am_cat (g := g) w
    unfold lg_sl at ih ⊢
    unfold am_ent
    rw [List.map_cons, List.flatMap_cons, List.length_append, ih]
    cases hb : am_isL (some w) with
    | true =>
      rw [hb] at hc
      rw [if_pos (by simpa using hc)]
      simp
      omega
    | false =>
      rw [hb] at hc
      rw [if_neg (by simpa using hc)]
      simp
      omega
section AMV
variable {g : am_G} {l : Launch} {M Mc : am_M} {h0 hf h h1 : am_H} {r v : Option Value} {pc pc' : Nat} {ls ls' : List (Option Value)} {st st' stk : List Value}
theorem am_ofW {y : MethodName} {ws ws' : List Cond} {rm : Room} {Pc : Array Value → State → Prop} {Qc : Array Value → State → Outcome → State → Prop} {mc ms : Nat} {free : Addr → Prop} {cc : ByteArray} {maxL : Nat} {ret : Option FieldType}
    (hy : plainFor y = true) (hw : ws = Cond.code y cc maxL ret :: ws')
    (body : ∀ p e s m args below meth c s₁, BodyLoose p l y (headSpec ws rm) cc maxL ret e s m args below meth c s₁ → c.maxLocals = maxL → Pc args s →
      W p l e (headSpec ws rm).room s m args below meth c s.heap [] 0 0 (MQ below Qc args s mc ms free) (entryFrame m args maxL)) : Met l y ws rm Pc Qc mc ms free := by
  refine MetFree.of_bodySF (code := cc) (maxLocals := maxL) (ret := ret) hy ?_ ?_
  · intro args s m h hn
    obtain ⟨meth, c, h1, h2, h3, h4, h5, h6, -, -⟩ := Cond.code_spec hn (atoms_spec (ws := ws) h _ (by rw [hw]; exact List.mem_cons_self))
    exact ⟨meth, c, h1, h2, h3, h4, h5, h6⟩
  · intro p e s m args below meth c s₁ B hml hP _
    have hh0 : s₁.heap = s.heap := by rw [B.state]; rfl
    obtain ⟨t, a1, o, b1, b2, b3⟩ := body p e s m args below meth c s₁ B hml hP s₁ hh0 (Stand.of_body B)
    exact ⟨t, o, a1, b1, b2, ⟨b3.1, b3.2⟩⟩
theorem am_met {av : List Value} {n : Nat} (hy : plainFor M.1 = true) (hls : am_ent av ++ List.replicate n none = ls) (hlen : (am_ent av).length ≤ M.2.2.1) (k : am_W g l M h0 r hf 0 ls [] h0) : am_Met g l M av h0 r hf := by
  refine ⟨k.1, am_ofW (cc := M.2.1) (maxL := M.2.2.1) (ret := M.2.2.2.1) hy rfl (fun p e s m args below meth c s₁ B hml hv => ?_)⟩
  obtain ⟨rfl, hR, hK, hX, hO, hz⟩ := hv
  rw [lg_entry_eq]
  have hl := lv_entry (av.map (am_v g)) (n := M.2.2.1) (by rw [am_ent_len]; exact hlen)
  have hts := atoms_spec (ws := am_cds M) B.pre
  have := k.2 (am_le.refl h0) p e s m _ below meth c _ s.heap [] ⟨⟨B.exec, B.bytes, hml, B.returns, findClass_of_methodNamed B.named, am_all (fun w hw => hts w (List.mem_cons_of_mem _ hw)) hO, B.notSynchronized, fun hq => (name_of_methodNamed B.named B.method).1.trans hq⟩, hK, hX, hz, hR, va_S.rf, hl.1, hl.2.1, fun i w hi => ?_⟩
  · rw [Nat.sub_self, Nat.sub_self] at this
    exact this
  · rw [← hls] at hi
    have hi2 : (am_ent av)[i]? = some (some w) := by
      by_cases hlt : i < (am_ent av).length
      · rw [List.getElem?_append_left hlt] at hi
        exact hi
      · rw [List.getElem?_append_right (by omega), List.getElem?_replicate] at hi
        split at hi <;> cases hi
    have := am_ent_args (g := g) av 0 i w hi2
    rw [Nat.zero_add] at this
    exact hl.2.2 _ this
theorem am_iret {x : Int32} {ty : FieldType} (hd : decode M.2.1 pc = .ok (.ireturn, 1)) (hr : M.2.2.2.1 = some ty) (hn : narrow ty (.int x) = .int x) : am_W g l M h0 (some (.int x)) h pc ls [.int x] h :=
  ⟨am_le.refl h, fun _ p e s m args below meth c lsc H locs C => W.zret C.1.1 C.1.2.1 (C.1.2.2.2.1.trans hr) hn (fun t ht _ => ⟨rfl, by rw [ht]; exact C.2.2.2.2.1, C.2.2.2.2.2.1.F ht⟩) C.2.2.2.2.2.1.2.2 hd C.1.2.2.2.2.2.2.1⟩
theorem am_zret {x y : Int32} (hd : decode M.2.1 pc = .ok (.ireturn, 1)) (hr : M.2.2.2.1 = some .boolean) (hx : am_z x = some y) : am_W g l M h0 (some (.int y)) h pc ls [.int x] h := by
  obtain ⟨rfl, hc⟩ := am_z_spec hx
  exact am_iret hd hr (by rcases hc with rfl | rfl <;> rfl)
theorem am_lret {x : Int64} (hd : decode M.2.1 pc = .ok (.lreturn, 1)) (hr : M.2.2.2.1 = some .long) : am_W g l M h0 (some (.long x)) h pc ls [.long x] h :=
  ⟨am_le.refl h, fun _ p e s m args below meth c lsc H locs C => W.lret C.1.1 C.1.2.1 (C.1.2.2.2.1.trans hr) (fun t ht _ => ⟨rfl, by rw [ht]; exact C.2.2.2.2.1, C.2.2.2.2.2.1.F ht⟩) C.2.2.2.2.2.1.2.2 hd C.1.2.2.2.2.2.2.1⟩
theorem am_aret {x : Nat} {C : String} (hd : decode M.2.1 pc = .ok (.areturn, 1)) (hr : M.2.2.2.1 = some (.object C)) : am_W g l M h0 (some (.ref x)) h pc ls [.ref x] h :=
  ⟨am_le.refl h, fun _ p e s m args below meth c lsc H locs Cx => W.aret Cx.1.1 Cx.1.2.1 (Cx.1.2.2.2.1.trans hr) (Or.inl ⟨C, rfl⟩) (by cases x with | zero => exact Or.inl rfl | succ x => exact Or.inr ⟨_, rfl⟩) (fun t ht _ => ⟨rfl, by rw [ht]; exact Cx.2.2.2.2.1, Cx.2.2.2.2.2.1.F ht⟩) Cx.2.2.2.2.2.1.2.2 hd Cx.1.2.2.2.2.2.2.1⟩
theorem am_vret (hd : decode M.2.1 pc = .ok (.return_, 1)) (hr : M.2.2.2.1 = none) : am_W g l M h0 none h pc ls [] h :=
  ⟨am_le.refl h, fun _ p e s m args below meth c lsc H locs C => W.vret C.1.1 C.1.2.1 (C.1.2.2.2.1.trans hr) (fun t ht _ => ⟨rfl, by rw [ht]; exact C.2.2.2.2.1, C.2.2.2.2.2.1.F ht⟩) C.2.2.2.2.2.1.2.2 hd C.1.2.2.2.2.2.2.1⟩
theorem am_oinit {idx n c : Nat} {fs : List Value} (hd : decode M.2.1 pc = .ok (.invokespecial idx, 3)) (w1 : Cond.methodLink M.1.cls idx objectInit ∈ am_ts) (w2 : Cond.instanceMethod objectInit ∈ am_ts) (w3 : Cond.code objectInit ⟨#[0xb1]⟩ 1 none ∈ am_ts) (ho : am_obj n c h = some fs) (hf1 : 1 ≤ M.2.2.2.2.1) (hl1 : (st.map am_ct).sum + 12 ≤ M.2.2.2.2.2) (hp : pc' = pc + 3) (k : am_W g l M h0 r hf pc' ls st h) : am_W g l M h0 r hf pc ls (.ref n :: st) h := by
  subst hp
  obtain ⟨j, rfl, hj⟩ := am_obj_spec ho
  have hs : ((st.map (am_v g)).map fun v => v.category).sum = (st.map am_ct).sum := by
    rw [List.map_map]
    congr 1
    apply List.map_congr_left
    intro a _
    exact am_ct_v a
  refine ⟨k.1, fun hle p e s m args below meth c lsc H locs C => ?_⟩
  exact W.objInit C.1.1 C.1.2.1 C.1.2.2.2.2.1 (C.1.2.2.2.2.2.1 _ w1) (C.1.2.2.2.2.2.1 _ w2) (C.1.2.2.2.2.2.1 _ w3) rfl (C.2.2.2.2.2.2.1.trans C.1.2.2.1.symm) rfl hd hf1 (by show 2 * 0 + _ + 12 ≤ M.2.2.2.2.2; rw [hs]; omega) (k.2 hle p e s m args below meth c lsc H locs C)
/-- words of a call -/
def am_cw (own : String) (idx : Nat) (Mc : am_M) (n : Nat) : Prop := Cond.initialized Mc.1.cls ∈ am_ts ∧ Cond.code Mc.1 Mc.2.1 Mc.2.2.1 Mc.2.2.2.1 ∈ am_ts ∧ (Mc.1.cls ≠ "java/lang/invoke/MethodHandle" ∧ Mc.1.cls ≠ "java/lang/invoke/VarHandle" ∧ (parseMethodDescriptor Mc.1.desc).map (fun d => d.parameters.length) = some n) ∧ (Cond.methodLink own idx Mc.1 ∈ am_ts ∨ ∃ host, Cond.methodLinkNest own idx Mc.1 host ∈ am_ts)
theorem am_goodIn (hc : Cond.code Mc.1 Mc.2.1 Mc.2.2.1 Mc.2.2.2.1 ∈ am_ts) : GoodIn am_ts (am_cds Mc) := by
  intro w hw
  rcases List.mem_cons.mp hw with rfl | hw
  · exact ⟨hc, Or.inl rfl⟩
  · obtain ⟨h1, h2⟩ := List.mem_filter.mp hw
    exact ⟨h1, good_of_word h2⟩
theorem am_blind {av : List Value} : FrameBlind (am_Pc g av h0) := fun a U f mk q =>
  ⟨q.1, q.2.1, va_K.moved (u := U) (U := U.calling f mk a) (Vm.Alike.refl U.vm) q.2.2.1, am_X.moved (u := U) (U := U.calling f mk a) (Vm.Alike.refl U.vm) q.2.2.2.1, am_O.warm (s := U) (U := U.calling f mk a) (State.WarmedH.refl U) q.2.2.2.2.1, q.2.2.2.2.2⟩
theorem am_start {av : List Value} {p : Program} {s : State} {m : MethodId} {args : Array Value} {meth : Method} {c : Code} {lsc : Array Slot} {H : Heap} {locs : List Loc} (C : am_Cx g M h0 p s m args meth c lsc H locs ls h) (hz : H.size = g.2.2.1 0 + h.length) (U : State) (hU : U.heap = H) (hW : s.WarmedH U.vm) : am_Pc g av h (av.map (am_v g)).toArray U :=
  ⟨rfl, by rw [hU]; exact C.2.2.2.2.1, va_K.moved hW.alike C.2.1, am_X.moved hW.alike (by rw [hU]; exact C.2.2.1.kept (by rw [C.2.2.2.1]; omega) (fun a h1 h2 => C.2.2.2.2.2.1.2.1 a h1 h2)), (am_O.of C.1.2.2.2.2.2.1).warm hW, by rw [hU]; exact hz⟩
/-- behind a call -/
theorem am_behind {av : List Value} (hM : am_Met g l Mc av h v h1) (k : am_W g l M h0 r hf (pc + 3) ls (v.toList ++ st) h1)
    (run : ∀ {p : Program} {e : Env} {s : State} {m : MethodId} {args : Array Value} {below : List Frame} {meth : Method} {c : Code} {lsc : Array Slot} {H : Heap} {locs : List Loc}, am_le h0 h → h.length - h0.length + (h1.length - h.length) ≤ (am_rm M h0 hf).cells ∧ am_n h - am_n h0 + (am_n h1 - am_n h) ≤ (am_rm M h0 hf).slots → am_Cx g M h0 p s m args meth c lsc H locs ls h → H.size = g.2.2.1 0 + h.length → ∃ aa : Array Value, va_Run p l e (am_rm M h0 hf) s m args below meth c H locs (h.length - h0.length) (am_n h - am_n h0) (h1.length - h.length) (am_n h1 - am_n h) (F0 m pc lsc (stk.map (am_v g))) (st.map (am_v g)) (am_Qc g v h1 aa) (am_A g)) : am_W g l M h0 r hf pc ls stk h := by
  have m1 := hM.1
  have k1 := k.1
  refine ⟨am_le.trans m1 k1, fun hle p e s m args below meth c lsc H locs C => ?_⟩
  unfold am_le at m1 k1
  have hle' := hle
  unfold am_le at hle'
  intro T hT X
  have hz := am_hsz C hle hT X
  obtain ⟨aa, run⟩ := run (e := e) (below := below) hle (by constructor <;> (unfold am_rm; dsimp only; omega)) C hz
  obtain ⟨v', st₀, t, T', L, e0, X', hL, e1, e2, ⟨hv, hR, hF⟩, stp⟩ := run T hT X
  cases hv
  have hS := C.2.2.2.2.2.1
  have hF1 := hF.1
  have hF2 := hF.2
  rw [e0] at hF1 hF2
  have ec : h.length - h0.length + (h1.length - h.length) = h1.length - h0.length := by omega
  have es : am_n h - am_n h0 + (am_n h1 - am_n h) = am_n h1 - am_n h0 := by omega
  rw [ec, es] at X'
  obtain ⟨t2, a1, b1⟩ := k.2 (by unfold am_le; omega) p e s m args below meth c lsc T'.heap (locs ++ L) ⟨C.1, C.2.1, C.2.2.1, C.2.2.2.1, by rw [e1]; exact hR, ⟨Nat.le_trans hS.1 (by rw [e1]; exact hF1), fun q q1 q2 => by rw [e1, hF2 q (Nat.lt_of_lt_of_le q1 hS.1) q2]; exact hS.2.1 q q1 q2, fun q hq => by
      rcases List.mem_append.mp hq with hq | hq
      · exact hS.2.2 q hq
      · exact hL q hq⟩, C.2.2.2.2.2.2⟩ T' rfl X'
  refine ⟨t2, stp t2 ?_, b1⟩
  cases v with
  | none => exact a1
  | some v => exact a1
theorem am_room {p : Nat} {lsc : Array Slot} {m : MethodId} (h8 : (st.map am_ct).sum ≤ 8) : 2 * (F0 m p lsc (stk.map (am_v g))).monitorRoom + ((st.map (am_v g)).map fun v => v.category).sum ≤ 8 := by
  apply lv_room
  rw [List.map_map]
  have : (fun v => v.category) ∘ am_v g = am_ct := by funext a; exact am_ct_v a
  rw [this]
  exact h8
theorem am_callV {idx n c : Nat} {As : List Value} {fs : List Value} {np : Nat} (hd : decode M.2.1 pc = .ok (.invokevirtual idx, 3)) (hw : am_cw M.1.cls idx Mc np) (w1 : Cond.instanceMethod Mc.1 ∈ am_ts) (w2 : Cond.selects Mc.1.cls Mc.1 Mc.1 ∈ am_ts) (hcl : ∃ q, am_cl[c]? = some q ∧ q.1 = Mc.1.cls) (hfr : Mc.2.2.2.2.1 + 1 ≤ M.2.2.2.2.1) (hlo : 8 + (Mc.2.2.1 + 11) + Mc.2.2.2.2.2 ≤ M.2.2.2.2.2)
    (hst : As.reverse ++ .ref n :: st = stk) (hn : As.length = np) (h8 : (st.map am_ct).sum ≤ 8) (ho : am_obj n c h = some fs) (hM : am_Met g l Mc (.ref n :: As) h v h1) (hp : pc' = pc + 3) (k : am_W g l M h0 r hf pc' ls (v.toList ++ st) h1) : am_W g l M h0 r hf pc ls stk h := by
  subst hp
  subst hst
  obtain ⟨j, rfl, hj⟩ := am_obj_spec ho
  obtain ⟨q, hc, hq⟩ := hcl
  obtain ⟨hini, hcode, hdd, hlink⟩ := hw
  refine am_behind hM k (fun hle hfit C hz => ?_)
  have hrecv := va_recv C.2.1 C.2.2.2.2.1 hc (am_ws_get (g := g) hj)
  rw [hq] at hrecv
  have hpre := am_start (av := .ref (j + 1) :: As) C hz
  rcases hlink with hlink | ⟨host, hlink⟩
  · exact ⟨_, va_runV (own := M.1.cls) (C := Mc.1.cls) (As := As.map (am_v g)) (n := np) ⟨C.1.1, C.1.2.1, C.1.2.2.1, C.1.2.2.2.2.1, C.1.2.2.2.2.2.1⟩ hM.2 ⟨callB_of np C.1.2.2.2.2.2.1 (am_goodIn hcode) rfl rfl rfl (C.1.2.2.2.2.2.1 _ hini) (C.1.2.2.2.2.2.1 _ hlink) hdd ⟨hfr, hlo⟩, C.1.2.2.2.2.2.1 _ w1, C.1.2.2.2.2.2.1 _ w2⟩ ⟨am_blind, hrecv, hpre⟩ rfl (by rw [List.length_map]; exact hn) C.2.2.2.2.2.2.1 (by show List.map (am_v g) _ = _; rw [List.map_append, List.map_reverse]; rfl) (am_room (stk := As.reverse ++ .ref (j + 1) :: st) h8) hd hfit⟩
  · exact ⟨_, va_runVN (own := M.1.cls) (C := Mc.1.cls) (host := host) (As := As.map (am_v g)) (n := np) ⟨C.1.1, C.1.2.1, C.1.2.2.1, C.1.2.2.2.2.1, C.1.2.2.2.2.2.1⟩ hM.2 ⟨va_cnB np C.1.2.2.2.2.2.1 (am_goodIn hcode) rfl rfl rfl (va_Nw.of rfl (C.1.2.2.2.2.2.1 _ hlink)) (C.1.2.2.2.2.2.1 _ hini) hdd ⟨hfr, hlo⟩, C.1.2.2.2.2.2.1 _ w1, C.1.2.2.2.2.2.1 _ w2⟩ ⟨am_blind, hrecv, hpre⟩ rfl (by rw [List.length_map]; exact hn) C.2.2.2.2.2.2.1 (by show List.map (am_v g) _ = _; rw [List.map_append, List.map_reverse]; rfl) (am_room (stk := As.reverse ++ .ref (j + 1) :: st) h8) hd hfit⟩
theorem am_callI {idx n c : Nat} {As : List Value} {fs : List Value} {np : Nat} (hd : decode M.2.1 pc = .ok (.invokespecial idx, 3)) (hw : am_cw M.1.cls idx Mc np) (w1 : Cond.instanceMethod Mc.1 ∈ am_ts) (hnm : Mc.1.name = "<init>") (hrt : Mc.2.2.2.1 = none) (hfr : Mc.2.2.2.2.1 + 1 ≤ M.2.2.2.2.1) (hlo : 8 + (Mc.2.2.1 + 11) + Mc.2.2.2.2.2 ≤ M.2.2.2.2.2)
    (hst : As.reverse ++ .ref n :: st = stk) (hn : As.length = np) (h8 : (st.map am_ct).sum ≤ 8) (ho : am_obj n c h = some fs) (hM : am_Met g l Mc (.ref n :: As) h v h1) (hp : pc' = pc + 3) (k : am_W g l M h0 r hf pc' ls (v.toList ++ st) h1) : am_W g l M h0 r hf pc ls stk h := by
  subst hp
  subst hst
  obtain ⟨j, rfl, hj⟩ := am_obj_spec ho
  obtain ⟨hini, hcode, hdd, hlink⟩ := hw
  refine am_behind hM k (fun hle hfit C hz => ?_)
  have hpre := am_start (av := .ref (j + 1) :: As) C hz
  have hcds : am_cds Mc = Cond.code Mc.1 Mc.2.1 Mc.2.2.1 none :: am_tb := by unfold am_cds; rw [hrt]
  rcases hlink with hlink | ⟨host, hlink⟩
  · exact ⟨_, va_runI (own := M.1.cls) (b := g.2.2.1 0 + j) (As := As.map (am_v g)) (n := np) ⟨C.1.1, C.1.2.1, C.1.2.2.1, C.1.2.2.2.2.1, C.1.2.2.2.2.2.1⟩ hM.2 ⟨callB_of np C.1.2.2.2.2.2.1 (am_goodIn hcode) hcds rfl rfl (C.1.2.2.2.2.2.1 _ hini) (C.1.2.2.2.2.2.1 _ hlink) hdd ⟨hfr, hlo⟩, hnm, C.1.2.2.2.2.2.1 _ w1⟩ ⟨am_blind, hpre⟩ rfl (by rw [List.length_map]; exact hn) C.2.2.2.2.2.2.1 (by show List.map (am_v g) _ = _; rw [List.map_append, List.map_reverse]; rfl) (am_room (stk := As.reverse ++ .ref (j + 1) :: st) h8) hd hfit⟩
  · exact ⟨_, va_runIN (own := M.1.cls) (host := host) (b := g.2.2.1 0 + j) (As := As.map (am_v g)) (n := np) ⟨C.1.1, C.1.2.1, C.1.2.2.1, C.1.2.2.2.2.1, C.1.2.2.2.2.2.1⟩ hM.2 ⟨va_cnB np C.1.2.2.2.2.2.1 (am_goodIn hcode) hcds rfl rfl (va_Nw.of rfl (C.1.2.2.2.2.2.1 _ hlink)) (C.1.2.2.2.2.2.1 _ hini) hdd ⟨hfr, hlo⟩, hnm, C.1.2.2.2.2.2.1 _ w1⟩ ⟨am_blind, hpre⟩ rfl (by rw [List.length_map]; exact hn) C.2.2.2.2.2.2.1 (by show List.map (am_v g) _ = _; rw [List.map_append, List.map_reverse]; rfl) (am_room (stk := As.reverse ++ .ref (j + 1) :: st) h8) hd hfit⟩
theorem am_callS {idx : Nat} {As : List Value} {np : Nat} (hd : decode M.2.1 pc = .ok (.invokestatic idx, 3)) (hw : am_cw M.1.cls idx Mc np) (w1 : Cond.static Mc.1 ∈ am_ts) (hfr : Mc.2.2.2.2.1 + 1 ≤ M.2.2.2.2.1) (hlo : 8 + (Mc.2.2.1 + 11) + Mc.2.2.2.2.2 ≤ M.2.2.2.2.2)
    (hst : As.reverse ++ st = stk) (hn : As.length = np) (h8 : (st.map am_ct).sum ≤ 8) (hM : am_Met g l Mc As h v h1) (hp : pc' = pc + 3) (k : am_W g l M h0 r hf pc' ls (v.toList ++ st) h1) : am_W g l M h0 r hf pc ls stk h := by
  subst hp
  subst hst
  obtain ⟨hini, hcode, hdd, hlink⟩ := hw
  refine am_behind hM k (fun hle hfit C hz => ?_)
  have hpre := am_start (av := As) C hz
  rcases hlink with hlink | ⟨host, hlink⟩
  · exact ⟨_, va_runS (own := M.1.cls) (As := As.map (am_v g)) (n := np) ⟨C.1.1, C.1.2.1, C.1.2.2.1, C.1.2.2.2.2.1, C.1.2.2.2.2.2.1⟩ hM.2 ⟨callB_of np C.1.2.2.2.2.2.1 (am_goodIn hcode) rfl rfl rfl (C.1.2.2.2.2.2.1 _ hini) (C.1.2.2.2.2.2.1 _ hlink) hdd ⟨hfr, hlo⟩, C.1.2.2.2.2.2.1 _ w1⟩ ⟨am_blind, hpre⟩ rfl (by rw [List.length_map]; exact hn) C.2.2.2.2.2.2.1 (by show List.map (am_v g) _ = _; rw [List.map_append, List.map_reverse]) (am_room (stk := As.reverse ++ st) h8) hd hfit⟩
  · exact ⟨_, va_runSN (own := M.1.cls) (host := host) (As := As.map (am_v g)) (n := np) ⟨C.1.1, C.1.2.1, C.1.2.2.1, C.1.2.2.2.2.1, C.1.2.2.2.2.2.1⟩ hM.2 ⟨va_cnB np C.1.2.2.2.2.2.1 (am_goodIn hcode) rfl rfl rfl (va_Nw.of rfl (C.1.2.2.2.2.2.1 _ hlink)) (C.1.2.2.2.2.2.1 _ hini) hdd ⟨hfr, hlo⟩, C.1.2.2.2.2.2.1 _ w1, trivial⟩ ⟨am_blind, hpre⟩ rfl (by rw [List.length_map]; exact hn) C.2.2.2.2.2.2.1 (by show List.map (am_v g) _ = _; rw [List.map_append, List.map_reverse]) (am_room (stk := As.reverse ++ st) h8) hd hfit⟩
/-! the constant row, the script -/
def am_xl (i : Int32) : Option Int32 := (am_ix i 8).bind fun j => some (am_inv j)
def am_sl (L : Nat) (xs : Nat → Int32) (i : Int32) : Option Int32 := (am_ix i L).bind fun j => some (xs j)
theorem am_gets {idx : Nat} (hd : decode M.2.1 pc = .ok (.getstatic idx, 3)) (hw : Cond.fieldLink M.1.cls idx "SignCellar" "INVERSE" "[I" ∈ am_ts) (hp : pc' = pc + 3) (k : am_W g l M h0 r hf pc' ls (.float 1 :: st) h) : am_W g l M h0 r hf pc ls st h := by
  subst hp
  exact am_pure k (fun C w => va_gets C.1.1 C.1.2.1 C.2.2.1.2.1 C.2.2.2.2.2.1 C.1.2.2.2.2.1 (C.1.2.2.2.2.2.1 _ hw) (fun _ h => h) hd w)
theorem am_xlen (hd : decode M.2.1 pc = .ok (.arraylength, 1)) (hp : pc' = pc + 1) (k : am_W g l M h0 r hf pc' ls (.int 8 :: st) h) : am_W g l M h0 r hf pc ls (.float 1 :: st) h := by
  subst hp
  refine am_pure k (fun C w => ?_)
  obtain ⟨cell, q1, q2, q3, q4, q5, q6, q7⟩ := C.2.2.1.2.2
  exact W.alen (n := 8) (a := g.2.2.1 2) C.1.1 C.1.2.1 ((C.2.2.2.2.2.1.2.1 _ (Array.getElem?_eq_some_iff.mp q1).1 q7).trans q1) q2 q5 rfl rfl hd w
theorem am_xald {i x : Int32} (hd : decode M.2.1 pc = .ok (.iaload, 1)) (hx : am_xl i = some x) (hp : pc' = pc + 1) (k : am_W g l M h0 r hf pc' ls (.int x :: st) h) : am_W g l M h0 r hf pc ls (.int i :: .float 1 :: st) h := by
  subst hp
  obtain ⟨j, hj, hx⟩ := am_bind hx
  cases hx
  obtain ⟨rfl, hin⟩ := am_ix_spec hj
  exact am_pure k (fun C w => va_ti C.1.1 C.1.2.1 C.2.2.1.2.2 C.2.2.2.2.2.1 hin rfl hd w)
theorem am_slen (hd : decode M.2.1 pc = .ok (.arraylength, 1)) (hp : pc' = pc + 1) (k : am_W g l M h0 r hf pc' ls (.int (Int32.ofNat (g.2.2.1 3)) :: st) h) : am_W g l M h0 r hf pc ls (.float 0 :: st) h := by
  subst hp
  exact am_pure k (fun C w => va_slen C.1.1 C.1.2.1 C.2.2.1.1.1 (Nat.lt_of_lt_of_le C.2.2.1.1.2 (by rw [C.2.2.2.1]; omega)) (Nat.not_le.mpr C.2.2.1.1.2) C.2.2.2.2.2.1 hd w)
theorem am_sald {i x : Int32} (hd : decode M.2.1 pc = .ok (.iaload, 1)) (hx : am_sl (g.2.2.1 3) g.2.2.2 i = some x) (hp : pc' = pc + 1) (k : am_W g l M h0 r hf pc' ls (.int x :: st) h) : am_W g l M h0 r hf pc ls (.int i :: .float 0 :: st) h := by
  subst hp
  obtain ⟨j, hj, hx⟩ := am_bind hx
  cases hx
  obtain ⟨rfl, hin⟩ := am_ix_spec hj
  exact am_pure k (fun C w => va_sld C.1.1 C.1.2.1 C.2.2.1.1.1 (Nat.lt_of_lt_of_le C.2.2.1.1.2 (by rw [C.2.2.2.1]; omega)) (Nat.not_le.mpr C.2.2.1.1.2) C.2.2.2.2.2.1 hin hd w)
/-! new int[n][k] -/
theorem am_outer (c : ClassId) (N a : Nat) : ∀ i : Nat, Jvm.Free.Multi.outerC c N a i = arrV c N (fun j => va_rf (if j < i then some (a + 1 + j) else none))
  | 0 => by
    show ({ cls := c, slots := Array.replicate N .null, vm := .none } : Cell) = _
    rw [arrV_new]
    refine congrArg (arrV c N) (funext fun j => ?_)
    simp [va_rf]
  | i + 1 => by
    show (Jvm.Free.Multi.outerC c N a i).setSlot i (.ref (a + 1 + i)) = _
    rw [am_outer c N a i, arrV_store]
    refine congrArg (arrV c N) (funext fun j => ?_)
    by_cases e : j = i
    · subst e
      simp [updV, va_rf]
    · by_cases hh : j < i
      · simp [updV, e, hh, Nat.lt_succ_of_lt hh]
      · simp [updV, e, hh, show ¬ j < i + 1 by omega]
theorem am_ws_app {a b : am_H} {q : Nat} {x : Nat × va_E} (hk : (am_ws g (a ++ b))[q]? = some x) : (∃ c, a[q]? = some c ∧ x = (g.2.2.1 0 + q, am_e g c)) ∨ (∃ c, a.length ≤ q ∧ b[q - a.length]? = some c ∧ x = (g.2.2.1 0 + q, am_e g c)) := by
  obtain ⟨c, hc, rfl⟩ := am_ws_of hk
  by_cases hl : q < a.length
  · rw [List.getElem?_append_left hl] at hc
    exact Or.inl ⟨c, hc, rfl⟩
  · rw [List.getElem?_append_right (by omega)] at hc
    exact Or.inr ⟨c, by omega, hc, rfl⟩
theorem am_mna {n k : Int32} {q idx : Nat} (hd : decode M.2.1 pc = .ok (.multianewarray idx 2, 4)) (w1 : Cond.classLink M.1.cls idx "[[I" ∈ am_ts) (w2 : Cond.arrayOver (.array .int) ∈ am_ts) (w3 : Cond.arrayClass .int ∈ am_ts) (hx : am_nm n k h = some (q, h1)) (hp : pc' = pc + 4) (kk : am_W g l M h0 r hf pc' ls (.ref q :: st) h1) : am_W g l M h0 r hf pc ls (.int k :: .int n :: st) h := by
  subst hp
  obtain ⟨N, hN, hx⟩ := am_bind hx
  obtain ⟨K, hK, hx⟩ := am_bind hx
  cases hx
  obtain ⟨eN, hn, hN2⟩ := am_nn_spec hN
  obtain ⟨eK, hk, hK2⟩ := am_nn_spec hK
  subst eN
  subst eK
  obtain ⟨k1, k2⟩ := kk
  have e1 : ((h ++ [(.inr (.inl (5, n.toNatClampNeg, fun i => if i < n.toNatClampNeg then h.length + 2 + i else 0)) : am_C)]) ++ List.replicate n.toNatClampNeg (.inl (0, k.toNatClampNeg, fun _ => 0) : am_C)).length = h.length + 1 + n.toNatClampNeg := by
    simp
    omega
  have e2 : am_n ((h ++ [(.inr (.inl (5, n.toNatClampNeg, fun i => if i < n.toNatClampNeg then h.length + 2 + i else 0)) : am_C)]) ++ List.replicate n.toNatClampNeg (.inl (0, k.toNatClampNeg, fun _ => 0) : am_C)) = am_n h + n.toNatClampNeg + n.toNatClampNeg * k.toNatClampNeg := by
    rw [am_n_app, am_n_push]
    congr 1
    simp [am_n, am_sz, List.map_replicate, List.sum_replicate_nat]
  generalize hh1 : ((h ++ [(.inr (.inl (5, n.toNatClampNeg, fun i => if i < n.toNatClampNeg then h.length + 2 + i else 0)) : am_C)]) ++ List.replicate n.toNatClampNeg (.inl (0, k.toNatClampNeg, fun _ => 0) : am_C)) = h1 at k1 k2 e1 e2
  have k1' := k1
  unfold am_le at k1'
  rw [e1, e2] at k1'
  refine ⟨⟨by omega, by omega⟩, fun hle p e s m args below meth c lsc H locs C => ?_⟩
  have hle' := hle
  unfold am_le at hle'
  intro T hT X
  have hz := am_hsz C hle hT X
  obtain ⟨vm₁, cA, comp, -, fA, fC, -, -, X', step⟩ := X.multianewarray2F C.1.1 (ty := .int) C.1.2.2.2.2.1 (C.1.2.2.2.2.2.1 _ w1) (C.1.2.2.2.2.2.1 _ w2) (C.1.2.2.2.2.2.1 _ w3) (g := F0 m pc lsc (.int k :: .int n :: st.map (am_v g))) rfl (by rw [C.1.2.1]; exact hd) rfl hn hk (Nat.le_trans (Nat.mul_le_mul_right 4 hN2) (by decide)) (Nat.le_trans (Nat.mul_le_mul_right _ hK2) (by decide)) (Nat.le_trans hK2 (by decide)) rfl rfl (by unfold am_rm; dsimp only; omega) (by unfold am_rm; dsimp only; omega)
  have ec : comp = g.2.1 0 := by
    have := (C.2.1.2 0 _ rfl).2
    exact Option.some.inj (fC.symm.trans this)
  have ea : cA = g.2.1 5 := by
    have := (C.2.1.2 5 _ rfl).2
    exact Option.some.inj (fA.symm.trans this)
  subst ec
  subst ea
  generalize hF : Jvm.Free.Multi.fill (T.setVm vm₁) (g.2.1 5) (g.2.1 0) n.toNatClampNeg k.toNatClampNeg (defaultValue .int) n.toNatClampNeg = F at X' step
  have hTh : (T.setVm vm₁).heap = H := hT
  obtain ⟨f1, f2, -, -⟩ := Jvm.Free.Multi.fill_facts (T.setVm vm₁) (g.2.1 5) (g.2.1 0) n.toNatClampNeg k.toNatClampNeg (defaultValue .int) n.toNatClampNeg
  rw [hF, hTh] at f1 f2
  have hold : ∀ x : Nat, x < H.size → F.heap[x]? = H[x]? := fun x hx => by
    have := Jvm.Free.Multi.fill_old (T.setVm vm₁) (g.2.1 5) (g.2.1 0) n.toNatClampNeg k.toNatClampNeg (defaultValue .int) (a := x) (by rw [hTh]; exact hx) n.toNatClampNeg
    rw [hF, hTh] at this
    exact this
  have hrow : ∀ j : Nat, j < n.toNatClampNeg → F.heap[H.size + 1 + j]? = some (vp_cell (g.2.1 0) (k.toNatClampNeg, .inl (fun _ => 0))) := fun j hj => by
    have := Jvm.Free.Multi.fill_inner (T.setVm vm₁) (g.2.1 5) (g.2.1 0) n.toNatClampNeg k.toNatClampNeg (defaultValue .int) n.toNatClampNeg j hj
    rw [hF, hTh] at this
    rw [this]
    show some ({ cls := g.2.1 0, slots := Array.replicate k.toNatClampNeg (.int 0), vm := .none } : Cell) = _
    rw [arrV_new]
    rfl
  rw [am_outer, hz] at f2
  have hR : am_R g h1 F.heap := by
    intro q x hx
    rw [← hh1] at hx
    rcases am_ws_app hx with ⟨c2, hc2, rfl⟩ | ⟨c2, hql, hc2, rfl⟩
    · by_cases hl : q < h.length
      · rw [List.getElem?_append_left hl] at hc2
        have h9 := C.2.2.2.2.1 q _ (am_ws_get (g := g) hc2)
        exact h9.kept (hold _ h9.lt)
      · rw [List.getElem?_append_right (by omega)] at hc2
        have hq : q = h.length := by
          have := (List.getElem?_eq_some_iff.mp hc2).1
          simp at this
          omega
        subst hq
        rw [Nat.sub_self] at hc2
        cases hc2
        show F.heap[g.2.2.1 0 + h.length]? = some (vp_cell _ _)
        rw [f2]
        refine congrArg some ((congrArg (arrV (g.2.1 5) n.toNatClampNeg) (funext fun j => ?_)).trans (vp_cell_q (g.2.1 5) n.toNatClampNeg (fun j => am_o g (if j < n.toNatClampNeg then h.length + 2 + j else 0))).symm)
        by_cases hj : j < n.toNatClampNeg
        · simp only [hj, if_true]
          show va_rf (some _) = va_rf (am_o g (h.length + 1 + 1 + j))
          rw [show h.length + 1 + 1 + j = (h.length + 1 + j) + 1 by omega]
          show va_rf (some (g.2.2.1 0 + h.length + 1 + j)) = va_rf (some (g.2.2.1 0 + (h.length + 1 + j)))
          rw [show g.2.2.1 0 + h.length + 1 + j = g.2.2.1 0 + (h.length + 1 + j) by omega]
        · simp only [hj, if_false]
          rfl
    · have hq2 := (List.getElem?_eq_some_iff.mp hc2).1
      rw [List.getElem?_replicate] at hc2
      split at hc2
      · next hlt =>
        cases hc2
        have e3 : (h ++ [(.inr (.inl (5, n.toNatClampNeg, fun i => if i < n.toNatClampNeg then h.length + 2 + i else 0)) : am_C)]).length = h.length + 1 := by simp
        rw [e3] at hql hlt
        have := hrow (q - (h.length + 1)) hlt
        rw [hz, show g.2.2.1 0 + h.length + 1 + (q - (h.length + 1)) = g.2.2.1 0 + q by omega] at this
        exact this
      · cases hc2
  have hS := C.2.2.2.2.2.1
  have hW := k2 (by unfold am_le; rw [e1, e2]; omega) p e s m args below meth c lsc F.heap locs ⟨C.1, C.2.1, C.2.2.1, C.2.2.2.1, hR, ⟨Nat.le_trans hS.1 (by omega), fun x h3 h4 => (hold x (Nat.lt_of_lt_of_le h3 hS.1)).trans (hS.2.1 x h3 h4), hS.2.2⟩, C.2.2.2.2.2.2⟩
  rw [e1, e2, show h.length + 1 + n.toNatClampNeg - h0.length = h.length - h0.length + 1 + n.toNatClampNeg by omega, show am_n h + n.toNatClampNeg + n.toNatClampNeg * k.toNatClampNeg - am_n h0 = am_n h - am_n h0 + n.toNatClampNeg + n.toNatClampNeg * k.toNatClampNeg by omega] at hW
  obtain ⟨t, a1, b1⟩ := hW F rfl X'
  refine ⟨t, step t ?_, b1⟩
  rw [show T.heap.size = g.2.2.1 0 + h.length by rw [hT, hz]]
  exact a1
end AMV
