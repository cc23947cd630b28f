/-! best -/
abbrev bW (S : sS) (v t : Nat) : Nat := wT (rl S v) (bSz S v) (bTm S v) t
def sp_best (S : sS) (v t i : Int32) : Int32 := if vd (nv S) v then (if (0 ≤ t.toInt ∧ t.toInt ≤ 9999) ∧ -2 ≤ i.toInt then (if trn S v.toNatClampNeg = 0 then (if bB S v.toNatClampNeg 0 (bW S v.toNatClampNeg t.toNatClampNeg) < 1000000 then (if i = -1 then nI (bB S v.toNatClampNeg 0 (bW S v.toNatClampNeg t.toNatClampNeg)) else if i = -2 then nI (bM S v.toNatClampNeg (bW S v.toNatClampNeg t.toNatClampNeg) (rl S v.toNatClampNeg)) else if vd (rl S v.toNatClampNeg) i then nI (bK S v.toNatClampNeg i.toNatClampNeg (bL S v.toNatClampNeg (bW S v.toNatClampNeg t.toNatClampNeg) i.toNatClampNeg)) else -1) else -100003) else -100005) else -100002) else -100001
theorem m2_le {i : Int32} : ((-2 : Int32) ≤ i) ↔ -2 ≤ i.toInt := by
  rw [Int32.le_iff_toInt_le]
  rw [show (-2 : Int32).toInt = -2 by decide]
theorem tS_le {S : sS} (w : WF S) {v : Nat} (hv : v < nv S) : tS (bSz S v) (bTm S v) (rl S v) ≤ 1152 ∧ mS (bSz S v) (rl S v) ≤ 900000 := by
  have hw := (w.2.2.2.2 v hv).1
  have h1 : tS (bSz S v) (bTm S v) (rl S v) ≤ rl S v * 144 := sumN_le _ (fun i hi => (bZ_le w hv hi _).2)
  have h2 : mS (bSz S v) (rl S v) ≤ rl S v * 2000 := sumN_le _ (fun i hi => (bZ_le w hv hi _).1)
  omega
section BX
variable {S : sS} {pb pv : Nat → Nat} {h : am_H}
theorem RX.ca (C : RX Zf S pb pv h) : ∃ aS aT m f m' g T p kf, am_obj 71 1 h = some [.ref 72, .ref 74, .ref 76, .ref 86, .int aS, .int aT] ∧ RowAt h 72 40 m f ∧ RowAt h 74 40 m' g ∧ Rws h 76 9 1153 T ∧ RowAt h 86 8 p kf := by
  obtain ⟨s1, s2, s3, s4, s5, s6, s7, s8, ⟨⟨a, b, o1⟩, ⟨m, f, o2⟩, ⟨m', g, o3⟩, ⟨T, o4⟩, ⟨p, kf, o5⟩⟩⟩ := C.2.2.2.2.2.2.2.1
  exact ⟨a, b, m, f, m', g, T, p, kf, o1, o2, o3, o4, o5⟩
theorem CA.scr {h' : am_H} {aS aT : Int32} {m p : Nat} {f g kf : Nat → Int32} {T : Nat → Nat → Int32} (C : RX Zf S pb pv h) (G : Fr inC h h') (M : CA h' aS aT m f g T p kf) : RX Zf S pb pv h' :=
  C.scr G (fun q z => by unfold inC at z; omega) (C.2.2.2.2.2.2.2.1.C G ⟨⟨_, _, M.1⟩, ⟨_, _, M.2.1⟩, ⟨_, _, M.2.2.1⟩, ⟨_, M.2.2.2.1⟩, ⟨_, _, M.2.2.2.2⟩⟩)
theorem CA.fr {P : Nat → Prop} {h h' : am_H} {aS aT : Int32} {m p : Nat} {f g kf : Nat → Int32} {T : Nat → Nat → Int32} (M : CA h aS aT m f g T p kf) (G : Fr P h h') (hp : ∀ q, inC q → ¬ P q) : CA h' aS aT m f g T p kf := ⟨(obj_at (G.2.2 _ (hp _ (by unfold inC; omega)))).trans M.1, M.2.1.fr G (hp _ (by unfold inC; omega)) (hp _ (by unfold inC; omega)), M.2.2.1.fr G (hp _ (by unfold inC; omega)) (hp _ (by unfold inC; omega)), M.2.2.2.1.fr G (fun q h1 h2 => hp q (by unfold inC; omega)), M.2.2.2.2.fr G (hp _ (by unfold inC; omega)) (hp _ (by unfold inC; omega))⟩
abbrev inB (q : Nat) : Prop := (24 ≤ q ∧ q < 88) ∨ 116 ≤ q
theorem addBlock_t {a i p : Nat} {aS aT : Int32} {f g f1 g1 kf : Nat → Int32} {T : Nat → Nat → Int32} (ha : 116 ≤ a) (M : CA h aS aT (i * 5) f g T p kf) (W : WB h a 5 false f1 g1) (hi : i < 8) : ∃ h' f' g', F_X1_addBlock 71 a h = some h' ∧ CA h' aS aT ((i + 1) * 5) f' g' T p kf ∧ Fr inC h h' ∧ (∀ j, j < i * 5 → f' j = f j ∧ g' j = g j) ∧ (∀ k, k < 5 → f' (i * 5 + k) = f1 k ∧ g' (i * 5 + k) = g1 k) := by
  obtain ⟨o, r1, r2⟩ := W
  obtain ⟨h1, fa, e1, ra, ka, kb, G1⟩ := row_addPart (a := 72) (b := a + 1) (i := 0) (e := 5) (k := 5) (by omega) M.2.1 r1 (by omega) (by omega) (by omega) (by omega) (by omega)
  have M1 : am_obj 71 1 h1 = some [.ref 72, .ref 74, .ref 76, .ref 86, .int aS, .int aT] := (obj_at (G1.2.2 _ (by omega))).trans M.1
  have o1 := (obj_at (c := 0) (G1.2.2 a (by omega))).trans o
  obtain ⟨h2, fb, e2, rb, kc, kd, G2⟩ := row_addPart (a := 74) (b := a + 3) (i := 0) (e := 5) (k := 5) (by omega) (M.2.2.1.fr G1 (by omega) (by omega)) (r2.fr G1 (by omega) (by omega)) (by omega) (by omega) (by omega) (by omega) (by omega)
  have hm : i * 5 + 5 = (i + 1) * 5 := by omega
  rw [hm] at ra rb
  refine ⟨h2, fa, fb, ?_, ⟨(obj_at (G2.2.2 _ (by omega))).trans M1, ra.fr G2 (by omega) (by omega), rb, (M.2.2.2.1.fr G1 (fun q h1 h2 => by omega)).fr G2 (fun q h1 h2 => by omega), (M.2.2.2.2.fr G1 (by omega) (by omega)).fr G2 (by omega) (by omega)⟩, G1.tr G2 (fun q z => by unfold inC; omega) (fun q z => by unfold inC; omega), fun j hj => ⟨ka j hj, kc j hj⟩, fun k hk => ⟨by rw [kb k hk, Nat.zero_add], by rw [kd k hk, Nat.zero_add]⟩⟩
  have g1' : am_gr 1 0 71 h = some 72 := M.gr.1
  have g2 : am_gr 1 1 71 h1 = some 74 := by unfold am_gr; rw [M1]; rfl
  have g3 : am_gr 0 1 a h = some (a + 1) := by unfold am_gr; rw [o]; rfl
  have g4 : am_gr 0 2 a h1 = some (a + 3) := by unfold am_gr; rw [o1]; rfl
  unfold F_X1_addBlock F_X1_addBlock_b
  rw [M.1, Option.bind_some, g1', Option.bind_some, g3, Option.bind_some, show (0 : Int32) = nI 0 from rfl, show (5 : Int32) = nI 5 from rfl, e1, Option.bind_some, g2, Option.bind_some, g4, Option.bind_some, e2, Option.bind_some]
theorem best_57 (w : WF S) {v t : Nat} {vi : Int32} (hv : v < nv S) (h0 : trn S v = 0) (ht : t ≤ 9999) : ∀ (q k i : Nat) (h : am_H) (aS aT : Int32) (f g kf : Nat → Int32) (T : Nat → Nat → Int32) (p : Nat), RX Zf S pb pv h → CA h aS aT (i * 5) f g T p kf → i + k = rl S v → k < q → (∀ j, j < i → ∀ k, k < 5 → f (j * 5 + k) = nI (bSz S v j k) ∧ g (j * 5 + k) = nI (bTm S v j k)) →
    ∃ h', F_X8_best_57 q 1 (nI t) vi (rD (pv v)) (nI i) h = some (if bB S v 0 (bW S v t) < 1000000 then (if vi = -1 then nI (bB S v 0 (bW S v t)) else if vi = -2 then nI (bM S v (bW S v t) (rl S v)) else if vd (rl S v) vi then nI (bK S v vi.toNatClampNeg (bL S v (bW S v t) vi.toNatClampNeg)) else -1) else -100003, h') ∧ RX Zf S pb pv h' ∧ Fr inB h h'
  | 0, k, i, h, aS, aT, f, g, kf, T, p, C, M, h1, h2, h3 => by omega
  | q + 1, 0, i, h, aS, aT, f, g, kf, T, p, C, M, h1, h2, h3 => by
    have hw := (w.2.2.2.2 v hv).1
    have V := C.2.2.2.2.2.2.1 v hv
    obtain ⟨fr, rr, -⟩ := V.2.1
    have ei : i = rl S v := by omega
    subst ei
    have H : Hz (rl S v) (bSz S v) (bTm S v) f g := ⟨hw.1, fun i hi k hk => ⟨h3 i hi k hk, bZ_le w hv hi k⟩⟩
    obtain ⟨h', aS', aT', T', p', kf', e, M', G, gg⟩ := choose_t H M ht
    have C' := M'.scr C G
    refine ⟨h', ?_, C', G.mono (fun q z => by unfold inC at z; unfold inB; omega)⟩
    rw [F_X8_best_57, V.f.1, Option.bind_some, row_length rr, Option.bind_some, if_pos (nI_le (Nat.le_refl _) (by omega)), C.gr (k := 15) (x := 71) (fun _ => rfl), Option.bind_some, e, Option.bind_some]
    show (if bI _ = 0 then _ else _) = _
    by_cases c : bs (rl S v) (bSz S v) (bTm S v) 0 (wT (rl S v) (bSz S v) (bTm S v) t) < 1000000
    · obtain ⟨a1, a2, a3, a4⟩ := gg c
      subst a1 a2 a3
      rw [decide_eq_true c, if_neg (show ¬ bI true = 0 by decide), if_pos (show bB S v 0 (bW S v t) < 1000000 from c)]
      unfold F_X8_best_166
      by_cases c1 : vi = -1
      · rw [if_pos c1, if_pos c1, C'.gr (k := 15) (x := 71) (fun _ => rfl), Option.bind_some, M'.gr.2.2.2.2.1, Option.bind_some]
      rw [if_neg c1, if_neg c1]
      by_cases c2 : vi = -2
      · rw [if_pos c2, if_pos c2, C'.gr (k := 15) (x := 71) (fun _ => rfl), Option.bind_some, M'.gr.2.2.2.2.2, Option.bind_some]
      rw [if_neg c2, if_neg c2, C'.gr (k := 15) (x := 71) (fun _ => rfl), Option.bind_some, M'.gr.2.2.2.1, Option.bind_some, row_at_any M'.2.2.2.2, Option.bind_some]
      by_cases c3 : vd (rl S v) vi
      · obtain ⟨z, hz, rfl⟩ := nI_of_toInt c3.1 c3.2
        rw [if_pos c3, if_pos c3, cl_nI (by omega), a4 z hz]
      · rw [if_neg c3, if_neg c3]
    · rw [decide_eq_false c, if_pos (show bI false = 0 from rfl), if_neg (show ¬ bB S v 0 (bW S v t) < 1000000 from c)]
  | q + 1, k + 1, i, h, aS, aT, f, g, kf, T, p, C, M, h1, h2, h3 => by
    have hw := (w.2.2.2.2 v hv).1
    have V := C.2.2.2.2.2.2.1 v hv
    obtain ⟨fr, rr, hrr⟩ := V.2.1
    have hb := hw.2 i (by omega)
    obtain ⟨ha, fa, ga, ea, Ca, Ga, Wa, va⟩ := weigh_t w C hb (trn_0 h0 i (by omega))
    have h116 : 116 ≤ rD (pb (rw_ S v i)) := by unfold rD; omega
    have Ma := M.fr Ga (fun q z => by unfold inC at z; unfold inW; omega)
    obtain ⟨hb', fb, gb, eb, Mb, Gb, kb1, kb2⟩ := addBlock_t h116 Ma Wa (by omega)
    have Cb := Mb.scr Ca Gb
    obtain ⟨h', e', C', G'⟩ := best_57 w hv h0 ht q k (i + 1) hb' aS aT fb gb kf T p Cb Mb (by omega) (by omega) (fun j hj k' hk' => by
      by_cases z : j = i
      · rw [z, (kb2 k' hk').1, (kb2 k' hk').2]; exact va k' hk'
      · rw [(kb1 (j * 5 + k') (by omega)).1, (kb1 (j * 5 + k') (by omega)).2]; exact h3 j (by omega) k' hk')
    refine ⟨h', ?_, C', ((Ga.mono (T := inB) (fun q z => by unfold inW at z; unfold inB; omega)).tr (Gb.mono (T := inB) (fun q z => by unfold inC at z; unfold inB; omega)) (T := inB) (fun _ z => z) (fun _ z => z)).tr G' (fun _ z => z) (fun _ z => z)⟩
    rw [F_X8_best_57, V.f.1, Option.bind_some, row_length rr, Option.bind_some, if_neg (nI_ge (by omega) (by omega)), Option.bind_some, row_at rr (by omega), Option.bind_some, hrr i (by omega), blockOf_t w C hb, Option.bind_some, if_neg (rD_ne _), ea, Option.bind_some, Ca.gr (k := 15) (x := 71) (fun _ => rfl), Option.bind_some, eb, Option.bind_some]
    unfold F_X8_best_106
    rw [nI_1]
    exact e'
theorem x_best (w : WF S) (C : RX Zf S pb pv h) (v t i : Int32) : ∃ h', F_X8_best 1 v t i h = some (sp_best S v t i, h') ∧ RX Zf S pb pv h' ∧ Fr inB h h' := by
  unfold sp_best F_X8_best F_X8_best_b F_X8_best_32
  rw [C.ob]
  have a0 : (t < (0 : Int32)) ↔ t.toInt < 0 := (lt_lit (x := t) (n := 0) (by decide)).1
  have a1 : ((9999 : Int32) < t) ↔ 9999 < t.toInt := (lt_lit (x := t) (n := 9999) (by decide)).2.1
  by_cases hv : vd (nv S) v
  · obtain ⟨j, hj, rfl⟩ := nI_of_toInt hv.1 hv.2
    have hn := w.2.2.2.1
    rw [if_pos hv, cl_nI (show j < 2 ^ 31 by omega), versionOf_t w C hj, Option.bind_some, if_neg (rD_ne _)]
    by_cases c1 : t.toInt < 0
    · rw [if_pos (a0.mpr c1), if_neg (fun q => by omega)]
      exact ⟨h, rfl, C, Fr.rf⟩
    rw [if_neg (fun q => c1 (a0.mp q))]
    by_cases c2 : 9999 < t.toInt
    · rw [if_pos (a1.mpr c2), if_neg (fun q => by omega)]
      exact ⟨h, rfl, C, Fr.rf⟩
    rw [if_neg (fun q => c2 (a1.mp q))]
    by_cases c3 : -2 ≤ i.toInt
    · rw [if_pos (m2_le.mpr c3), if_pos (show (0 ≤ t.toInt ∧ t.toInt ≤ 9999) ∧ -2 ≤ i.toInt by omega), tornBlocks_t w C hj, Option.bind_some]
      have ht8 := trn_le w hj
      by_cases c4 : trn S j = 0
      · rw [if_pos (show nI (trn S j) ≤ 0 by rw [c4]; decide), if_pos c4]
        obtain ⟨aS, aT, m, f, m', g, T, p, kf, o, r1, r2, r3, r4⟩ := C.ca
        obtain ⟨h1, e1, q1, G1⟩ := row_empty r1
        have o1 : am_obj 71 1 h1 = some [.ref 72, .ref 74, .ref 76, .ref 86, .int aS, .int aT] := (obj_at (G1.2.2 _ (by omega))).trans o
        obtain ⟨h2, e2, q2, G2⟩ := row_empty (r2.fr G1 (by omega) (by omega))
        have M2 : CA h2 aS aT (0 * 5) f g T p kf := ⟨(obj_at (G2.2.2 _ (by omega))).trans o1, q1.fr G2 (by omega) (by omega), q2, (r3.fr G1 (fun q h1 h2 => by omega)).fr G2 (fun q h1 h2 => by omega), (r4.fr G1 (by omega) (by omega)).fr G2 (by omega) (by omega)⟩
        have G12 : Fr inC h h2 := G1.tr G2 (fun q z => by unfold inC; omega) (fun q z => by unfold inC; omega)
        have C2 := M2.scr C G12
        obtain ⟨z, hz, rfl⟩ := nI_of_toInt (n := 10000) (v := t) (by omega) (by omega)
        rw [cl_nI (show z < 2 ^ 31 by omega)]
        have hw := (w.2.2.2.2 j hj).1
        obtain ⟨h3, e3, C3, G3⟩ := best_57 w (vi := i) hj c4 (show z ≤ 9999 by omega) am_F (rl S j) 0 h2 aS aT f g kf T p C2 M2 (by omega) (by show _ < 100000; omega) (fun j hj => by omega)
        refine ⟨h3, ?_, C3, (G12.mono (T := inB) (fun q z => by unfold inC at z; unfold inB; omega)).tr G3 (fun _ z => z) (fun _ z => z)⟩
        have g0 : am_gr 1 0 71 h = some 72 := by unfold am_gr; rw [o]; rfl
        have g1' : am_gr 1 1 71 h1 = some 74 := by unfold am_gr; rw [o1]; rfl
        unfold F_X1_begin F_X1_begin_b
        rw [C.gr (k := 15) (x := 71) (fun _ => rfl), Option.bind_some, o, Option.bind_some, g0, Option.bind_some, e1, Option.bind_some, g1', Option.bind_some, e2, Option.bind_some, Option.bind_some]
        exact e3
      · rw [if_neg (nI_nle (by omega) (by omega)), if_neg c4]
        exact ⟨h, rfl, C, Fr.rf⟩
    · rw [if_neg (fun q => c3 (m2_le.mp q)), if_neg (fun q => c3 q.2)]
      exact ⟨h, rfl, C, Fr.rf⟩
  · rw [if_neg hv, versionOf_f w C hv, Option.bind_some, if_pos rfl]
    exact ⟨h, rfl, C, Fr.rf⟩
end BX
section BMM
variable {X : Fin 87 → am_C} {I : Nat → Int32} {A : Nat → Nat → Int32} {Y : am_H} {S : sS}
theorem bt_62 {v u : Nat} {vi : Int32} (w : WF S) (R : RM S I A) (hv : v < nv S) (H : RH S v A) (hT : ∀ j, j ≤ rl S v → ∀ u, u ≤ 1200 → A 36 (1201 * j + u) = nI (bB S v j u)) (hu : u ≤ 1200) : F_X9_best_62 88 (nI v) vi (nI u) (md X I A Y) = some (if bB S v 0 u < 1000000 then (if vi = -1 then nI (bB S v 0 u) else if vi = -2 then nI (bM S v u (rl S v)) else if vd (rl S v) vi then nI (bK S v vi.toNatClampNeg (bL S v u vi.toNatClampNeg)) else -1) else -100003, md X I A Y) := by
  have hb := bs_le (n := rl S v) (sz := bSz S v) (tm := bTm S v) 0 u (by omega)
  have hb : bB S v 0 u ≤ 1000000 := hb
  have hw := (w.2.2.2.2 v hv).1
  unfold F_X9_best_62
  rw [md_gr36, Option.bind_some, show (0 : Int32) = nI 0 from rfl, at_t, Option.bind_some, md_il36, ix_nI (show 1201 * 0 + u < 10809 by omega) (by decide), Option.bind_some, Option.bind_some, hT 0 (by omega) u hu]
  by_cases c : bB S v 0 u < 1000000
  · rw [if_pos (show nI (bB S v 0 u) < (1000000 : Int32) from nI_lt (b := 1000000) c (by decide)), if_pos c]
    by_cases c1 : vi = -1
    · rw [if_pos c1, if_pos c1, Option.bind_some, Option.bind_some, md_il36, ix_nI (show 1201 * 0 + u < 10809 by omega) (by decide), Option.bind_some, Option.bind_some, hT 0 (by omega) u hu]
    · rw [if_neg c1, if_neg c1]
      have := bt_110 (X := X) (Y := Y) w R hv H hT (vi := vi) hu c am_F (rl S v) 0 (by omega) (by show _ < 100000; omega)
      rw [if_neg (fun z => by unfold vd at z; omega)] at this
      exact this
  · rw [if_neg (show ¬ nI (bB S v 0 u) < (1000000 : Int32) from nI_nlt (b := 1000000) (by omega) (by omega)), if_neg c]
theorem m_best (w : WF S) (R : RM S I A) (v t i : Int32) : ∃ I' A', F_X9_best 88 v t i (md X I A Y) = some (sp_best S v t i, md X I' A' Y) ∧ RM S I' A' := by
  unfold sp_best F_X9_best F_X9_best_b F_X9_best_29
  rw [md_obj, Option.bind_some]
  have a2 : (t ≤ (1200 : Int32)) ↔ t.toInt ≤ 1200 := (lt_lit (x := t) (n := 1200) (by decide)).2.2.1
  by_cases hv : vd (nv S) v
  · obtain ⟨j, hj, rfl⟩ := nI_of_toInt hv.1 hv.2
    have hn := w.2.2.2.1
    rw [if_pos hv, cl_nI (show j < 2 ^ 31 by omega), noV_t w R hv, Option.bind_some, if_pos rfl, in_spec, Option.bind_some, Int32.toInt_toInt64, show (0 : Int64).toInt = 0 from rfl, show (9999 : Int64).toInt = 9999 from rfl]
    by_cases c1 : 0 ≤ t.toInt ∧ t.toInt ≤ 9999
    · rw [if_pos c1, if_neg i1ne0]
      by_cases c3 : -2 ≤ i.toInt
      · rw [if_pos (m2_le.mpr c3), if_pos (show (0 ≤ t.toInt ∧ t.toInt ≤ 9999) ∧ -2 ≤ i.toInt from ⟨c1, c3⟩), tornIn_spec w R hj, Option.bind_some]
        have ht8 := trn_le w hj
        by_cases c4 : trn S j = 0
        · rw [if_pos (show nI (trn S j) ≤ 0 by rw [c4]; decide), if_pos c4]
          obtain ⟨I', A', e, R', H, hT⟩ := findBest_t (X := X) (Y := Y) w R hj
          refine ⟨I', A', ?_, R'⟩
          rw [e, Option.bind_some]
          obtain ⟨z, hz, rfl⟩ := nI_of_toInt (n := 10000) (v := t) (by omega) (by omega)
          rw [nI_toInt (by omega)] at a2
          obtain ⟨ts, ms⟩ := tS_le w hj
          have same := best_same (tm := bTm S j) ms (t := if z ≤ 1200 then z else 1200) (u := bW S j z) (by
            show _ = wT _ _ _ z ∨ (_ ∧ _ ≤ wT _ _ _ z)
            unfold wT
            rw [if_neg (show ¬ 1152 < tS (bSz S j) (bTm S j) (rl S j) by omega)]
            by_cases c5 : tS (bSz S j) (bTm S j) (rl S j) < z
            · rw [if_pos c5]
              right
              refine ⟨?_, Nat.le_refl _⟩
              split <;> omega
            · rw [if_neg c5]
              left
              rw [if_pos (by omega)])
          obtain ⟨s1, s2, s3⟩ := same
          have eu : (if nI z ≤ (1200 : Int32) then F_X9_best_62 88 (nI j) i (nI z) (md X I' A' Y) else F_X9_best_62 88 (nI j) i 1200 (md X I' A' Y)) = F_X9_best_62 88 (nI j) i (nI (if z ≤ 1200 then z else 1200)) (md X I' A' Y) := by
            by_cases c5 : z ≤ 1200
            · rw [if_pos (a2.mpr (by omega)), if_pos c5]
            · rw [if_neg (fun q => c5 (by have := a2.mp q; omega)), if_neg c5]; rfl
          rw [eu, bt_62 w R' hj H hT (by split <;> omega), cl_nI (show z < 2 ^ 31 by omega)]
          have s1 : bB S j 0 (if z ≤ 1200 then z else 1200) = bB S j 0 (bW S j z) := s1
          have s3 : bM S j (if z ≤ 1200 then z else 1200) (rl S j) = bM S j (bW S j z) (rl S j) := s3
          rw [s1, s3]
          by_cases c6 : vd (rl S j) i
          · obtain ⟨y, hy, rfl⟩ := nI_of_toInt c6.1 c6.2
            have hw := (w.2.2.2.2 j hj).1
            have s2 : bK S j y (bL S j (if z ≤ 1200 then z else 1200) y) = bK S j y (bL S j (bW S j z) y) := s2 y hy
            rw [cl_nI (show y < 2 ^ 31 by omega), s2]
          · rw [if_neg c6, if_neg c6]
        · rw [if_neg (nI_nle (by omega) (by omega)), if_neg c4]
          exact ⟨I, A, rfl, R⟩
      · rw [if_neg (fun q => c3 (m2_le.mp q)), if_neg (fun q => c3 q.2)]
        exact ⟨I, A, rfl, R⟩
    · rw [if_neg c1, if_pos rfl, if_neg (fun q => c1 q.1)]
      exact ⟨I, A, rfl, R⟩
  · rw [if_neg hv, noV_f w R hv, Option.bind_some, if_neg i1ne0]
    exact ⟨I, A, rfl, R⟩
end BMM
theorem o_best : am_op_best (Inv Zf) := by
  rintro h a0 a1 a2 ⟨S, pb, pv, X, I, A, Y, w, R, rfl, C, hn⟩
  obtain ⟨h1, e, C', F⟩ := x_best w C a0 a1 a2
  obtain ⟨h2, e2, hI⟩ := Inv.fin (f := F_X9_best 88 a0 a1 a2) (r := sp_best S a0 a1 a2) w (fun q q1 q2 => F.2.2 q (by unfold inB; omega)) C' (by rw [F.2.1]; exact hn) (fun X Y => m_best w R a0 a1 a2)
  exact ⟨_, h1, h2, e, e2, hI⟩
