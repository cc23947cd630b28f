/-! THE CLAIM OUT OF ONE WALK OF THE LAW'S BODY. Your part is whole_start (and what it stands on); all else here is the same for every law, but numbers. -/
def R_law : String := "SignCellarLaw"
def lw_P (b : Addr) (xs : List Int32) (args : Array Value) (s : State) : Prop := args = #[.ref b] ∧ s.IntsAt b xs ∧ xs.length ≤ 2560 ∧ (Jvm.Cond.and given_1 narrow_1).before args s = true
def lw_Q (_ : Array Value) (s : State) (o : Outcome) (t : State) : Prop := o = .returned (some (.int 1)) ∧ Framed s o t [] 600000 7302250
def lw_Z (below : List Frame) (a : Array Value) (s : State) : State → Prop := fun t => ∃ o, t.status = .running ∧ Ended t below o ∧ lw_Q a s o t
/-- the law's own end, with 1 on the stack, nothing written that was there before, its room as the claim has it -/
theorem lw_ret {p : Program} {l : Launch} {e : Env} {s : State} {m : MethodId} {below : List Frame} {meth : Method} {c : Code} {b : Nat} (hx : p.tables.exec = Jvm.exec) (hb : c.code = code) (hr : meth.sig.returnType = ret) (hlocks : meth.locks = false) {pc : Nat} {H : Heap} {ls : Array Slot} (hdg : decode code pc = .ok (.ireturn, 1)) : W p l e room_1 s m #[Value.ref b] below meth c H [] 600000 7302250 (lw_Z below #[Value.ref b] s) (F0 m pc ls [.int 1]) := by
  intro T hT X
  obtain ⟨fs, hret, hrun, hended, hW, hframe⟩ := X.leave (v := some (.int 1)) (hlocks := hlocks) (fun h => by rw [hr] at h; cases h)
  have hmeth' : T.vm.method? m = some meth := X.method'
  refine ⟨T.setFrames fs, ?_, .returned (some (.int 1)), hrun, hended, rfl, ⟨_, rfl⟩, hW, hframe⟩
  jvm_step X.here [X.here.top, hx, hb, hdg, hmeth', hr, ret, narrow_b1]
  (try refine ⟨rfl, ?_⟩); (try refine ⟨rfl, ?_⟩)
  first | (intro acts; rw [hret _ acts rfl rfl rfl]) | rw [hret _ _ rfl rfl rfl]
  exact Steps.refl _
/-- what holds at the law's entry: the machine, the code, the tables' words (any of lw_tbl by 'hts w (by decide +kernel)'), the script of L ints xs at the cell b, what the Statement gives of the start (any of its parts by flat_of_before) -/
def lw_At (p : Program) (s : State) (m : MethodId) (meth : Method) (c : Code) (b L : Nat) (xs : Nat → Int32) : Prop :=
  p.tables.exec = Jvm.exec ∧ c.code = code ∧ meth.sig.returnType = ret ∧ c.maxLocals = 4 ∧ s.vm.findClass R_law = some m.cls ∧ (∀ w ∈ lw_tbl, w.before #[Value.ref b] s = true) ∧ va_X b L xs s s.heap ∧ b < s.heap.size ∧ meth.locks = false ∧ (Jvm.Cond.and given_1 narrow_1).before #[Value.ref b] s = true

def am_Main : Prop := ∀ (L : Nat) (xs : Nat → Int32), L ≤ 2560 → ∃ hf : am_H, F_L_law_b L xs [] = some (1, hf) ∧ hf.length ≤ 600000 ∧ am_n hf ≤ 7302250
theorem am_hasRoom {s : State} {pl : Platform} {r r2 : Room} (h : s.hasRoom pl r2 = true) (h1 : r.frames ≤ r2.frames) (h2 : r.cells ≤ r2.cells) (h3 : r.slots ≤ r2.slots) (h4 : r.locals ≤ r2.locals) : s.hasRoom pl r = true := by
  simp only [State.hasRoom, Bool.and_eq_true, decide_eq_true_eq] at h ⊢
  obtain ⟨⟨⟨⟨q1, q2⟩, q3⟩, q4⟩, q5⟩ := h
  exact ⟨⟨⟨⟨by omega, by omega⟩, by omega⟩, by omega⟩, q5⟩
theorem am_roomW {p : Program} {l : Launch} {e : Env} {R R2 : Room} {s : State} {m : MethodId} {args : Array Value} {below : List Frame} {meth : Method} {c : Code} {H : Heap} {locs : List Loc} {cells slots : Nat} {Q : State → Prop} {f : JFrame} (h1 : R.frames ≤ R2.frames) (h2 : R.cells ≤ R2.cells) (h3 : R.slots ≤ R2.slots) (h4 : R.locals ≤ R2.locals) (w : W p l e R s m args below meth c H locs cells slots Q f) : W p l e R2 s m args below meth c H locs cells slots Q f :=
  fun T hT X => w T hT { X with room := am_hasRoom X.room h1 h2 h3 h4 }
theorem am_whole (hmain : am_Main) {p : Program} {e : Env} {s : State} {m : MethodId} {below : List Frame} {meth : Method} {c : Code} (l : Launch) {b L : Nat} {xs : Nat → Int32} (hL : L ≤ 2560) (C0 : lw_At p s m meth c b L xs) : W p l e room_1 s m #[Value.ref b] below meth c s.heap [] 0 0 (lw_Z below #[Value.ref b] s) (entryFrame m ([Value.ref b] : List Value).toArray 4) := by
  obtain ⟨hx, hb, hr, hml, hown, hts, hX, hbl, hlk, hgv⟩ := C0
  have hs := flat_of_before _ hgv
  have ht2 : ∀ w ∈ am_ts, w.before #[Value.ref b] s = true := fun w hw => hts w (List.mem_filter.mp hw).1
  obtain ⟨c0, i0, u0⟩ := u_known (C := RX0) (T := TX0) (N := 4) ht2 inX0 (ht2 _ wd_2_43)
  obtain ⟨c1, i1, u1⟩ := u_known (C := RX1) (T := TX1) (N := 6) ht2 inX1 (ht2 _ wd_1_150)
  obtain ⟨c2, i2, u2⟩ := u_known (C := RX2) (T := TX2) (N := 4) ht2 inX2 (ht2 _ wd_1_45)
  obtain ⟨c3, i3, u3⟩ := u_known (C := RX3) (T := TX3) (N := 5) ht2 inX3 (ht2 _ wd_1_97)
  obtain ⟨c4, i4, u4⟩ := u_known (C := RX4) (T := TX4) (N := 2) ht2 inX4 (ht2 _ wd_1_22)
  obtain ⟨c5, i5, u5⟩ := u_known (C := RX5) (T := TX5) (N := 6) ht2 inX5 (ht2 _ wd_1_67)
  obtain ⟨c6, i6, u6⟩ := u_known (C := RX6) (T := TX6) (N := 5) ht2 inX6 (ht2 _ wd_1_123)
  obtain ⟨c7, i7, u7⟩ := u_known (C := RX7) (T := TX7) (N := 6) ht2 inX7 (ht2 _ wd_2_78)
  obtain ⟨c8, i8, u8⟩ := u_known (C := RX8) (T := TX8) (N := 16) ht2 inX8 (ht2 _ wd_1_14)
  obtain ⟨c9, i9, u9⟩ := u_known (C := RX9) (T := TX9) (N := 42) ht2 inX9 (ht2 _ wd_4_95)
  obtain ⟨aI, kaI, coI, f1I, f2I, f3I⟩ := Cond.arrayClass_spec (ht2 _ wd_1_37)
  obtain ⟨aZ, kaZ, coZ, f1Z, f2Z, f3Z⟩ := Cond.arrayClass_spec (ht2 _ wd_4_227)
  obtain ⟨coB, aB, kaB, g1B, g2B, g3B, g4B, g5B⟩ := Cond.arrayOver_spec (ht2 _ wd_1_39)
  obtain ⟨coV, aV, kaV, g1V, g2V, g3V, g4V, g5V⟩ := Cond.arrayOver_spec (ht2 _ wd_1_41)
  obtain ⟨coR, aR, kaR, g1R, g2R, g3R, g4R, g5R⟩ := Cond.arrayOver_spec (ht2 _ wd_1_74)
  obtain ⟨coA, aA, kaA, g1A, g2A, g3A, g4A, g5A⟩ := arrayOverA_spec (ht2 _ wd_1_43)
  obtain ⟨t, ht, hT⟩ := va_Tof (args := #[Value.ref b]) (s := s) (tm := .static "SignCellar" "INVERSE" "[I") (ty := .int) (N := 8) (f := fun j => .int (am_inv j)) (A := fun q => s.heap.size ≤ q) (by decide) (hs _ (by decide +kernel)) (va_eqt (hs _ (by decide +kernel))) (fun j hj => by
    match j, hj with
    | 0, _ => exact va_eqt (hs _ (by decide +kernel))
    | 1, _ => exact va_eqt (hs _ (by decide +kernel))
    | 2, _ => exact va_eqt (hs _ (by decide +kernel))
    | 3, _ => exact va_eqt (hs _ (by decide +kernel))
    | 4, _ => exact va_eqt (hs _ (by decide +kernel))
    | 5, _ => exact va_eqt (hs _ (by decide +kernel))
    | 6, _ => exact va_eqt (hs _ (by decide +kernel))
    | 7, _ => exact va_eqt (hs _ (by decide +kernel))) (fun a ha => Nat.not_le.mpr ha)
  have hZ := va_Zref (A := fun q => s.heap.size ≤ q) (hts _ (List.mem_append_right _ (show _ ∈ tables_1 from by decide +kernel)) : (Cond.laysStatic "SignCellar" "INVERSE" "[I").before #[Value.ref b] s = true) (ht2 _ wd_1_1) ht (fun a ha => Nat.not_le.mpr ha)
  obtain ⟨g, hg⟩ : ∃ g : am_G, g = ((fun c => match c with | 0 => c0 | 1 => c1 | 2 => c2 | 3 => c3 | 4 => c4 | 5 => c5 | 6 => c6 | 7 => c7 | 8 => c8 | _ => c9, fun c => match c with | 0 => i0 | 1 => i1 | 2 => i2 | 3 => i3 | 4 => i4 | 5 => i5 | 6 => i6 | 7 => i7 | 8 => i8 | _ => i9), (fun t => match t with | 0 => aI | 1 => aZ | 2 => aB | 3 => aV | 4 => aR | _ => aA), (fun k => match k with | 0 => s.heap.size | 1 => b | 2 => t | _ => L), xs) := ⟨_, rfl⟩
  have n0 : g.2.2.1 0 = s.heap.size := by rw [hg] <;> rfl
  have n1 : g.2.2.1 1 = b := by rw [hg] <;> rfl
  have n2 : g.2.2.1 2 = t := by rw [hg] <;> rfl
  have n3 : g.2.2.1 3 = L := by rw [hg] <;> rfl
  have n4 : g.2.2.2 = xs := by rw [hg] <;> rfl
  have hA : am_A g = fun q => s.heap.size ≤ q := by unfold am_A; rw [n0]
  have hK : am_K g s := by
    refine ⟨fun c q hq => ?_, fun k q hk => ?_⟩
    · rw [hg]
      match c, hq with
      | 0, hq => cases hq; exact u0
      | 1, hq => cases hq; exact u1
      | 2, hq => cases hq; exact u2
      | 3, hq => cases hq; exact u3
      | 4, hq => cases hq; exact u4
      | 5, hq => cases hq; exact u5
      | 6, hq => cases hq; exact u6
      | 7, hq => cases hq; exact u7
      | 8, hq => cases hq; exact u8
      | 9, hq => cases hq; exact u9
    · have e : (am_tys g) = [(aI, .int), (aZ, .boolean), (aB, .object "SignCellar$Block"), (aV, .object "SignCellar$Version"), (aR, .object "SignCellar$Row"), (aA, .array .int)] := by rw [hg]; rfl
      rw [e] at hk
      match k, hk with
      | 0, hk => cases hk; exact ⟨fun _ _ => ⟨fun k h => (by cases h), kaI, f2I, coI, f3I⟩, f1I⟩
      | 1, hk => cases hk; exact ⟨fun _ _ => ⟨fun k h => (by cases h), kaZ, f2Z, coZ, f3Z⟩, f1Z⟩
      | 2, hk => cases hk; exact ⟨fun _ _ => ⟨fun k h => (by cases h), kaB, g3B, coB, g4B⟩, kaB, coB, g3B, g4B, g1B, g5B⟩
      | 3, hk => cases hk; exact ⟨fun _ _ => ⟨fun k h => (by cases h), kaV, g3V, coV, g4V⟩, kaV, coV, g3V, g4V, g1V, g5V⟩
      | 4, hk => cases hk; exact ⟨fun _ _ => ⟨fun k h => (by cases h), kaR, g3R, coR, g4R⟩, kaR, coR, g3R, g4R, g1R, g5R⟩
      | 5, hk => cases hk; exact ⟨fun _ _ => ⟨fun k h => (by cases h), kaA, g3A, coA, g4A⟩, g5A⟩
      | k + 6, hk => cases hk
  have hX2 : am_X g s s.heap := by
    refine ⟨⟨?_, ?_⟩, ?_, ?_⟩
    · rw [n1, n3, n4]; exact hX
    · rw [n0, n1]; exact hbl
    · rw [n2, hA]; exact hZ
    · rw [n2, hA]; exact hT
  obtain ⟨hf, hF, hn1, hn2⟩ := hmain L xs hL
  rw [← n3, ← n4] at hF
  have w := w_L_law (g := g) (l := l) (h0 := []) [] hF
  have hl := lv_entry ([Value.ref b]) (n := 4) (Nat.le_of_ble_eq_true rfl)
  rw [lg_entry_eq]
  generalize (lg_sl ([Value.ref b]) ++ List.replicate (4 - (lg_sl ([Value.ref b])).length) Slot.unset).toArray = lsc at hl ⊢
  have hW := w.2 (am_le.refl []) p e s m #[Value.ref b] below meth c lsc s.heap [] ⟨⟨hx, hb, hml, hr, hown, ht2, hlk, fun q => absurd q (by decide)⟩, hK, hX2, by rw [n0]; rfl, fun k q hk => by simp [am_ws] at hk, va_S.rf, hl.1, hl.2.1, fun i v hi => by
    match i, hi with
    | 0, hi =>
      cases hi
      have := hl.2.2 (0, .ref b) List.mem_cons_self
      show lsc[0]? = some (.val (.ref (if (0 : UInt32) = 0 then g.2.2.1 1 else g.2.2.1 2)))
      rw [if_pos rfl, n1]
      exact this
    | 1, hi => cases hi
    | 2, hi => cases hi
    | 3, hi => cases hi
    | i + 4, hi => simp at hi⟩
  have hW2 := am_roomW (R2 := room_1) (show (8 : Nat) ≤ 10 by decide) (by show hf.length - 0 ≤ 600000; omega) (by show am_n hf - am_n [] ≤ 7302250; omega) (show (181 : Nat) ≤ 364 by decide) hW
  intro T hT X
  obtain ⟨t2, a1, o, b1, b2, ⟨hv, -, -⟩, L2, hE, hLf⟩ := hW2 T hT X
  refine ⟨t2, a1, o, b1, b2, hv, hE.1, hE.2.1, hE.2.2.weaken (fun y hy hlt => ?_) (by show hf.length - 0 ≤ 600000; omega) (by show am_n hf - am_n [] ≤ 7302250; omega)⟩
  have h9 := hLf y hy
  rw [hA] at h9
  exact absurd hlt (Nat.not_lt.mpr h9)
