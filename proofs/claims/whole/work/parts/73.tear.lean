/-! tear -/
section TE
variable {Z : sZ} {S : sS} {pb pv : Nat → Nat} {h : am_H}
theorem RX.tears {t' : Nat → Bool} {P : Nat → Prop} {h' : am_H} (C : RX Z S pb pv h) (F : Fr P h h') (hP : ∀ q, P q → ∃ b, b < nb S ∧ rD (pb b) ≤ q ∧ q < rD (pb b) + 7) (hB : ∀ b, b < nb S → BlkAt Z h' (rD (pb b)) (ln S b) (sg S b) (t' b)) : RX Z (S_t S t') pb pv h' := by
  have h116 : ∀ q, q < 116 → ¬ P q := fun q h1 h2 => by obtain ⟨b, -, h3, -⟩ := hP q h2; unfold rD at h3; omega
  obtain ⟨f2, a2, b2⟩ := C.2.1
  obtain ⟨f3, a3, b3⟩ := C.2.2.1
  obtain ⟨⟨pn, k1⟩, k2, k3, ⟨f4, a4, b4⟩, ⟨f5, a5, b5⟩, k6, k7, k8, k9, k10⟩ := C
  exact ⟨⟨pn, (obj_at (F.2.2 _ (h116 _ (by omega)))).trans k1⟩, ⟨f2, a2.fr F (h116 _ (by omega)) (h116 _ (by omega)), b2⟩, ⟨f3, a3.fr F (h116 _ (by omega)) (h116 _ (by omega)), b3⟩, ⟨f4, (ra_at (F.2.2 _ (h116 _ (by omega)))).trans a4, b4⟩, ⟨f5, (ra_at (F.2.2 _ (h116 _ (by omega)))).trans a5, b5⟩, hB, fun v hv => (k7 v hv).fr F (fun q q1 q2 z => by
    obtain ⟨b, hb, h3, h4⟩ := hP q z
    have := k9.2.2.2 b v hb hv
    unfold rD at q1 q2 h3 h4
    omega), k8.fr F (fun q _ q2 => h116 q (by omega)), k9, F.1.trans k10⟩
/-- blocks that aren't touched -/
theorem RX.blk {P : Nat → Prop} {h' : am_H} {b c : Nat} (C : RX Z S pb pv h) (F : Fr P h h') (hP : ∀ q, P q → rD (pb b) ≤ q ∧ q < rD (pb b) + 7) (hb : b < nb S) (hc : c < nb S) (hne : c ≠ b) : BlkAt Z h' (rD (pb c)) (ln S c) (sg S c) (tn S c) :=
  (C.2.2.2.2.2.1 c hc).fr F (fun q q1 q2 z => by
    have h1 := hP q z
    have h2 : pb c ≠ pb b := fun e => hne (C.2.2.2.2.2.2.2.2.1.2.1 c b hc hb e)
    unfold rD at q1 q2 h1
    omega)
theorem BlkAt.torn {a n : Nat} {s : Nat → Nat} {t : Bool} (B : BlkAt Z h a n s t) (t' : Bool) (hf : t' = false → ∃ f, RowAt h (a + 5) n n f ∧ ∀ k, k < n → f k = nI (s k)) : ∃ h', am_pz 0 3 a (bI t') h = some h' ∧ BlkAt Z h' a n s t' ∧ Fr (fun q => q = a) h h' := by
  obtain ⟨b1, ⟨f, r1, r2⟩, m, f1, g1, ⟨r3, r4⟩, r5⟩ := B
  obtain ⟨h', e, o, F⟩ := ob_setv (k := 3) b1 (by show 3 < 4; omega) (.int (bI t'))
  refine ⟨h', ?_, ⟨o, ?_, m, f1, g1, ⟨r3.fr F (by omega) (by omega), r4.fr F (by omega) (by omega)⟩, r5⟩, F⟩
  · unfold am_pz
    rw [z_b]
    exact e
  · cases t' with
    | true => exact ⟨f, r1.fr F (by omega) (by omega), fun z => by cases z⟩
    | false =>
      obtain ⟨f', r', hf'⟩ := hf rfl
      exact ⟨f', r'.fr F (by omega) (by omega), fun _ => hf'⟩
/-- a torn block's signs may be anything -/
theorem BlkAt.setT {a n k : Nat} {s : Nat → Nat} {f : Nat → Int32} (B : BlkAt Z h a n s true) (r : RowAt h (a + 5) n n f) (hk : k < n) (x : Int32) : ∃ h', F_X4_set (a + 5) (nI k) x h = some h' ∧ BlkAt Z h' a n s true ∧ RowAt h' (a + 5) n n (upd f k x) ∧ Fr (fun q => q = a + 6) h h' := by
  obtain ⟨b1, -, m, f1, g1, ⟨r3, r4⟩, r5⟩ := B
  obtain ⟨h', e, r', F⟩ := row_set r hk x
  exact ⟨h', e, ⟨(obj_at (F.2.2 _ (by omega))).trans b1, ⟨_, r', fun z => by cases z⟩, m, f1, g1, ⟨r3.fr F (by omega) (by omega), r4.fr F (by omega) (by omega)⟩, r5⟩, r', F⟩
theorem lose_loop {a n : Nat} {s : Nat → Nat} : ∀ (q k i : Nat) (h : am_H), BlkAt Z h a n s true → i + k = n → n ≤ 24 → k < q → ∃ h', F_X0_lose_7 q a (nI i) h = some h' ∧ BlkAt Z h' a n s true ∧ Fr (fun q => a ≤ q ∧ q < a + 7) h h'
  | 0, k, i, h, B, h1, hn, h2 => by omega
  | q + 1, 0, i, h, B, h1, hn, h2 => by
    obtain ⟨f, r, -⟩ := B.2.1
    rw [F_X0_lose_7, B.f.1, Option.bind_some, row_length r, Option.bind_some, if_pos (nI_le (by omega) (by omega))]
    exact ⟨h, rfl, B, Fr.rf⟩
  | q + 1, k + 1, i, h, B, h1, hn, h2 => by
    obtain ⟨f, r, -⟩ := B.2.1
    obtain ⟨h', e, B', r', F⟩ := B.setT r (show i < n by omega) 0
    rw [F_X0_lose_7, B.f.1, Option.bind_some, row_length r, Option.bind_some, if_neg (nI_ge (by omega) (by omega)), Option.bind_some, e, Option.bind_some, nI_1]
    obtain ⟨h2, e2, B2, F2⟩ := lose_loop q k (i + 1) h' B' (by omega) hn (by omega)
    exact ⟨h2, e2, B2, F.tr F2 (fun _ z => by omega) (fun _ z => z)⟩
theorem x_tear (w : WF S) (C : RX Z S pb pv h) (b : Int32) : ∃ h', F_X8_tear 1 b h = some ((sp_tear S b).1, h') ∧ RX Z (sp_tear S b).2 pb pv h' ∧ Fr (fun q => 116 ≤ q) h h' := by
  unfold sp_tear F_X8_tear F_X8_tear_b
  rw [C.ob]
  by_cases hb : vd (nb S) b
  · obtain ⟨j, hj, rfl⟩ := nI_of_toInt hb.1 hb.2
    have hn := w.2.2.1.1
    have hl := (w.2.2.1.2 j hj).1
    have B := C.2.2.2.2.2.1 j hj
    rw [if_pos hb, cl_nI (show j < 2 ^ 31 by omega), blockOf_t w C hj, Option.bind_some, if_neg (rD_ne _), B.f.2.2.2, Option.bind_some]
    cases ht : tn S j with
    | true =>
      rw [if_neg (show ¬ bI true = 0 by decide), if_pos rfl]
      exact ⟨h, rfl, C, Fr.rf⟩
    | false =>
      rw [if_pos (show bI false = 0 from rfl), if_neg (by decide)]
      obtain ⟨h1, e1, B1, F1⟩ := B.torn true (fun z => by cases z)
      obtain ⟨h2, e2, B2, F2⟩ := lose_loop am_F (ln S j) 0 h1 B1 (by omega) (by omega) (by show _ < 100000; omega)
      have F : Fr (fun q => rD (pb j) ≤ q ∧ q < rD (pb j) + 7) h h2 := F1.tr F2 (fun _ z => by omega) (fun _ z => z)
      refine ⟨h2, ?_, C.tears (t' := fun q => if q = j then true else tn S q) F (fun q z => ⟨j, hj, z⟩) (fun c hc => ?_), F.mono (fun q z => by unfold rD at z; omega)⟩
      · unfold F_X0_lose F_X0_lose_b
        rw [B.1, Option.bind_some, show (1 : Int32) = bI true from rfl, e1, Option.bind_some]
        rw [show (0 : Int32) = nI 0 from rfl, e2]
        rfl
      · by_cases e : c = j
        · subst e
          show BlkAt Z h2 _ _ _ (if c = c then true else tn S c)
          rw [if_pos rfl]
          exact B2
        · show BlkAt Z h2 _ _ _ (if c = j then true else tn S c)
          rw [if_neg e]
          exact C.blk F (fun q z => z) hj hc e
  · rw [if_neg hb, blockOf_f w C hb, Option.bind_some, if_pos rfl]
    exact ⟨h, rfl, C, Fr.rf⟩
end TE
theorem WF_tear {S : sS} (w : WF S) (b : Int32) : WF (sp_tear S b).2 := by
  unfold sp_tear
  split
  · split
    · exact w
    · exact WF_t w _
  · exact w
section OPS7
variable {Z : sZ}
theorem o_tear : am_op_tear (Inv Z) := by
  rintro h a0 ⟨S, pb, pv, X, I, A, Y, w, R, rfl, C, hn⟩
  obtain ⟨h1, e, C', F⟩ := x_tear w C a0
  obtain ⟨h2, e2, hI⟩ := Inv.fin (f := F_X9_tear 88 a0) (r := (sp_tear S a0).1) (WF_tear w a0) (fun q q1 q2 => F.2.2 q (by omega)) C' (by rw [F.2.1]; refine Nat.le_trans hn (Nat.le_of_eq ?_); unfold sp_tear; (repeat' split) <;> rfl) (fun X Y => by obtain ⟨A', e, R'⟩ := m_tear (X := X) (Y := Y) w R a0; exact ⟨I, A', e, R'⟩)
  exact ⟨_, h1, h2, e, e2, hI⟩
end OPS7
/-! whole numbers in 32 bits; the remainder by 17 -/
abbrev zI (z : Int) : Int32 := Int32.ofInt z
theorem zI_n (n : Nat) : nI n = zI n := (Int32.ofInt_eq_ofNat ..).symm
theorem zI_add (a b : Int) : zI a + zI b = zI (a + b) := (Int32.ofInt_add a b).symm
theorem zI_sub (a b : Int) : zI a - zI b = zI (a - b) := (Int32.ofInt_sub a b).symm
theorem zI_mul (a b : Int) : zI a * zI b = zI (a * b) := (Int32.ofInt_mul a b).symm
theorem zI_toInt {z : Int} (h1 : -1000000 ≤ z) (h2 : z ≤ 1000000) : (zI z).toInt = z := by
  rw [Int32.toInt_ofInt, show Int32.size = 2 ^ 32 from rfl]
  exact Int.bmod_eq_of_le (by omega) (by omega)
theorem fmod17 {z : Int} (h1 : -1000000 ≤ z) (h2 : z ≤ 1000000) (h : am_H) : F_J9_floorMod_7cf53 (zI z) 17 h = some (zI (z % 17)) := by
  have hx : (0 ≤ (zI z ^^^ (17 : Int32))) ↔ 0 ≤ z := by
    have e1 : (zI z ^^^ (17 : Int32)).toInt < 0 ↔ (zI z).toInt < 0 := by
      have m1 := BitVec.msb_eq_toInt (x := (zI z ^^^ (17 : Int32)).toBitVec)
      have m2 := BitVec.msb_eq_toInt (x := (zI z).toBitVec)
      have m3 : (zI z ^^^ (17 : Int32)).toBitVec.msb = (zI z).toBitVec.msb := by
        rw [Int32.toBitVec_xor, BitVec.msb_xor]
        show Bool.xor _ (17#32).msb = _
        rw [show (17#32).msb = false by decide, Bool.xor_false]
      rw [m1, m2] at m3
      exact decide_eq_decide.mp m3
    rw [zI_toInt h1 h2] at e1
    rw [Int32.le_iff_toInt_le, Int32.toInt_zero]
    omega
  have hd : (zI z) - (zI z) / 17 * 17 = zI (z - z.tdiv 17 * 17) := by
    have e2 : (zI z) / 17 = zI (z.tdiv 17) := by
      apply Int32.toInt_inj.mp
      rw [Int32.toInt_div, zI_toInt h1 h2, show (17 : Int32).toInt = 17 from rfl]
      have hb : -1000000 ≤ z.tdiv 17 ∧ z.tdiv 17 ≤ 1000000 := by
        rcases Int.le_total 0 z with c | c
        · rw [Int.tdiv_eq_ediv_of_nonneg c]; omega
        · rw [show z = - -z by omega, Int.neg_tdiv, Int.tdiv_eq_ediv_of_nonneg (show 0 ≤ -z by omega)]; omega
      rw [zI_toInt hb.1 hb.2]
      exact Int.bmod_eq_of_le (by omega) (by omega)
    rw [e2, show (17 : Int32) = zI 17 from rfl, zI_mul, zI_sub]
  unfold F_J9_floorMod_7cf53 F_J9_floorMod_7cf53_b F_J9_floorMod_7cf53_18
  rw [if_neg (by decide), hd]
  by_cases c : 0 ≤ z
  · rw [if_pos (hx.mpr c), Int.tdiv_eq_ediv_of_nonneg c, show z - z / 17 * 17 = z % 17 by omega]
  · rw [if_neg (fun q => c (hx.mp q))]
    have e3 : z.tdiv 17 = -((-z) / 17) := by rw [show z = - -z by omega, Int.neg_tdiv, Int.tdiv_eq_ediv_of_nonneg (show 0 ≤ -z by omega)]; omega
    rw [e3]
    by_cases c2 : z % 17 = 0
    · rw [if_pos (by rw [show z - -(-z / 17) * 17 = 0 by omega]; rfl), show z - -(-z / 17) * 17 = z % 17 by omega]
    · rw [if_neg]
      · rw [show (17 : Int32) = zI 17 from rfl, zI_add, show z - -(-z / 17) * 17 + 17 = z % 17 by omega]
      · intro q
        have := congrArg Int32.toInt q
        rw [zI_toInt (by omega) (by omega), Int32.toInt_zero] at this
        omega
