/-! the class keeps a plan as a version -/
def LX (Z : sZ) (S : sS) (pb : Nat → Nat) (h : am_H) : Prop := (∃ pn, am_obj 1 8 h = some (xfs S pn)) ∧ (∃ f, am_ra 2 6 h = some (200, f) ∧ ∀ b, b < nb S → f b = rD (pb b)) ∧ ∀ b, b < nb S → BlkAt Z h (rD (pb b)) (ln S b) (sg S b) (tn S b)
section LK
variable {Z : sZ} {S : sS} {pb pv : Nat → Nat} {h : am_H}
theorem RX.lx (C : RX Z S pb pv h) : LX Z S pb h := ⟨C.1, C.2.2.2.1, C.2.2.2.2.2.1⟩
theorem LX.app (L : LX Z S pb h) (t : am_H) : LX Z S pb (h ++ t) := by
  obtain ⟨⟨pn, o⟩, ⟨f, a, d⟩, B⟩ := L
  exact ⟨⟨pn, obj_app o⟩, ⟨f, ra_app a, d⟩, fun b hb => (B b hb).app t⟩
theorem LX.fr {P : Nat → Prop} {h' : am_H} (L : LX Z S pb h) (F : Fr P h h') (h1 : ¬ P 1) (h6 : ¬ P 6) (hB : ∀ b, b < nb S → ∀ q, rD (pb b) ≤ q → q < rD (pb b) + 7 → ¬ P q) : LX Z S pb h' := by
  obtain ⟨⟨pn, o⟩, ⟨f, a, d⟩, B⟩ := L
  exact ⟨⟨pn, (obj_at (F.2.2 _ h1)).trans o⟩, ⟨f, (ra_at (F.2.2 _ h6)).trans a, d⟩, fun b hb => (B b hb).fr F (hB b hb)⟩
theorem LX.ob (L : LX Z S pb h) {β : Type} (f : Option β) : ((am_obj 1 8 h).bind fun _ => f) = f := by obtain ⟨pn, e⟩ := L.1; rw [e]; rfl
theorem LX.gr {k x : Nat} (L : LX Z S pb h) (hk : ∀ pn, (xfs S pn)[k]? = some (.ref x)) : am_gr 8 k 1 h = some x := by obtain ⟨pn, e⟩ := L.1; unfold am_gr; rw [e, Option.bind_some, hk pn]
theorem blockOf_l (w : WF S) (L : LX Z S pb h) {b : Nat} (hb : b < nb S) : F_X8_blockOf 1 (nI b) h = some (rD (pb b)) := by
  have hn := w.2.2.1.1
  obtain ⟨f, hf, hf2⟩ := L.2.1
  obtain ⟨pn, o⟩ := L.1
  have g3 : am_gi 8 3 1 h = some (nI (nb S)) := by unfold am_gi; rw [o]; rfl
  simp only [F_X8_blockOf, L.ob, F_X8_blockOf_b, F_X8_blockOf_31, g3, L.gr (k := 2) (x := 6) (fun _ => rfl), Option.bind_some, ln_ra hf (by decide)]
  rw [if_neg (nI_pos (by omega)), if_neg (nI_ge hb (by omega)), if_neg (nI_ge (by omega) (by decide)), al_ra hf (by omega) (by decide), hf2 b hb]
  rfl
/-- a version under way: k of its sums stand -/
def VP (S : sS) (h : am_H) (a n : Nat) (f : Nat → Nat) (p : Int32) (c l k : Nat) : Prop := am_obj a 7 h = some [.ref (a + 5), .int p, .int (nI c), .int (nI l), .ref (a + 1), .ref (a + 3)] ∧ (∃ g, RowAt h (a + 5) n n g ∧ ∀ i, i < n → g i = nI (f i)) ∧ (∃ g, RowAt h (a + 1) 24 k g ∧ ∀ j, j < k → g j = nI (sumN (fun i => num S (f i) j) n % 17)) ∧ ∃ g, RowAt h (a + 3) 24 k g ∧ ∀ j, j < k → g j = nI (sumN (fun i => (i + 1) * num S (f i) j) n % 17)
variable {a n c l k : Nat} {f : Nat → Nat} {p : Int32}
theorem VP.fs (V : VP S h a n f p c l k) : am_gr 7 0 a h = some (a + 5) ∧ am_gi 7 3 a h = some (nI l) ∧ am_gr 7 4 a h = some (a + 1) ∧ am_gr 7 5 a h = some (a + 3) := by
  unfold am_gr am_gi
  rw [V.1]
  exact ⟨rfl, rfl, rfl, rfl⟩
theorem lengthIn_l (w : WF S) (L : LX Z S pb h) (V : VP S h a n f p c l k) {i : Nat} (hi : i < n) (hf : f i < nb S) : F_X8_lengthIn 1 a (nI i) h = some (nI (ln S (f i))) := by
  obtain ⟨g, hg, hg2⟩ := V.2.1
  have B := L.2.2 _ hf
  obtain ⟨gb, hgb, -⟩ := B.2.1
  simp only [F_X8_lengthIn, L.ob, F_X8_lengthIn_b, F_X8_lengthIn_28, V.fs.1, Option.bind_some, row_at hg hi, hg2 i hi, blockOf_l w L hf, if_neg (rD_ne _), B.f.1, row_length hgb]
theorem numberIn_l (w : WF S) (L : LX Z S pb h) (V : VP S h a n f p c l k) {i j : Nat} (hi : i < n) (hf : f i < nb S) (ht : tn S (f i) = false) (hj : j < 24) : F_X8_numberIn 1 a (nI i) (nI j) h = some (nI (num S (f i) j)) := by
  obtain ⟨gr, hgr, hgr2⟩ := V.2.1
  have B := L.2.2 _ hf
  obtain ⟨g, hg, hg2⟩ := B.2.1
  have hl := w.2.2.1.2 _ hf
  unfold F_X8_numberIn F_X8_numberIn_b F_X8_numberIn_22 F_X8_signIn F_X8_signIn_b F_X8_signIn_32 num
  rw [L.ob, L.ob, V.fs.1, Option.bind_some, row_at hgr hi, Option.bind_some, hgr2 i hi, blockOf_l w L hf, Option.bind_some, if_neg (rD_ne _), B.f.1, Option.bind_some]
  by_cases c : j < ln S (f i)
  · have h16 := hl.2 j c
    rw [row_at hg c, Option.bind_some, Option.bind_some, hg2 ht j c, if_neg (nI_nm1 (by omega)), if_pos c]
  · rw [row_at_out hg (fun z => by unfold vd at z; rw [nI_toInt (by omega)] at z; omega), Option.bind_some, Option.bind_some, if_pos rfl, if_neg c]
    rfl
abbrev inV (a q : Nat) : Prop := a ≤ q ∧ q < a + 7
theorem add_16 {K : Nat → Nat → Int32 → am_H → Option am_H} (w : WF S) (hn : n ≤ 8) (hf : ∀ i, i < n → f i < nb S ∧ tn S (f i) = false) (hk : k < 24) (L : LX Z S pb h) (V : VP S h a n f p c l k) : ∀ (q m i : Nat), i + m = n → m < q →
    ∃ h', F_X8_addUp_16 K q 1 a (nI k) (nI (sumN (fun i => num S (f i) k) i)) (nI (sumN (fun i => (i + 1) * num S (f i) k) i)) (nI i) h = K 1 a (nI (k + 1)) h' ∧ VP S h' a n f p c l (k + 1) ∧ Fr (inV a) h h'
  | 0, m, i, h1, h2 => by omega
  | q + 1, 0, i, h1, h2 => by
    have ei : i = n := by omega
    subst ei
    have b1 := sumN_le (f := fun i => num S (f i) k) (c := 16) i (fun j hj => num_le w (hf j hj).1)
    have b2 := sumN_le (f := fun i => (i + 1) * num S (f i) k) (c := 128) i (fun j hj => by
      have e1 := num_le (k := k) w (hf j hj).1
      have : (j + 1) * num S (f j) k ≤ 8 * 16 := Nat.mul_le_mul (by omega) e1
      omega)
    obtain ⟨o, ⟨g0, r0, h0⟩, ⟨g1, r1, d1⟩, ⟨g2, r2, d2⟩⟩ := id V
    obtain ⟨ha, ea, ra, Ga⟩ := row_add r1 (show k < 24 by omega) (nI (sumN (fun i => num S (f i) k) i % 17))
    have oa := (obj_at (c := 7) (Ga.2.2 a (by omega))).trans o
    obtain ⟨hb, eb, rb, Gb⟩ := row_add (r2.fr Ga (by omega) (by omega)) (show k < 24 by omega) (nI (sumN (fun i => (i + 1) * num S (f i) k) i % 17))
    have ga5 : am_gr 7 5 a ha = some (a + 3) := by unfold am_gr; rw [oa]; rfl
    refine ⟨hb, ?_, ⟨(obj_at (Gb.2.2 a (by omega))).trans oa, ⟨g0, (r0.fr Ga (by omega) (by omega)).fr Gb (by omega) (by omega), h0⟩, ⟨_, ra.fr Gb (by omega) (by omega), fun j hj => ?_⟩, ⟨_, rb, fun j hj => ?_⟩⟩, Ga.tr Gb (fun q z => by unfold inV; omega) (fun q z => by unfold inV; omega)⟩
    · rw [F_X8_addUp_16, V.fs.1, Option.bind_some, row_length r0, Option.bind_some, if_pos (nI_le (Nat.le_refl _) (by omega)), V.fs.2.2.1, Option.bind_some, show (17 : Int32) = nI 17 from rfl, mod_nI (by omega) (by omega) (by omega), ea, Option.bind_some, ga5, Option.bind_some, mod_nI (by omega) (by omega) (by omega), eb, Option.bind_some, nI_1]
    · by_cases z : j = k
      · rw [z, upd_self]
      · rw [upd_ne z]; exact d1 j (by omega)
    · by_cases z : j = k
      · rw [z, upd_self]
      · rw [upd_ne z]; exact d2 j (by omega)
  | q + 1, m + 1, i, h1, h2 => by
    obtain ⟨g0, r0, h0⟩ := V.2.1
    obtain ⟨f1, f2⟩ := hf i (by omega)
    have ih := add_16 (K := K) w hn hf hk L V q m (i + 1) (by omega) (by omega)
    rw [show sumN (fun i => num S (f i) k) (i + 1) = sumN (fun i => num S (f i) k) i + num S (f i) k from rfl, show sumN (fun i => (i + 1) * num S (f i) k) (i + 1) = sumN (fun i => (i + 1) * num S (f i) k) i + (i + 1) * num S (f i) k from rfl] at ih
    rw [F_X8_addUp_16, V.fs.1, Option.bind_some, row_length r0, Option.bind_some, if_neg (nI_ge (by omega) (by omega)), numberIn_l w L V (by omega) f1 f2 hk, Option.bind_some, nI_add, nI_1, nI_mulN, nI_add]
    exact ih
theorem add_2 (w : WF S) (hn : n ≤ 8) (hf : ∀ i, i < n → f i < nb S ∧ tn S (f i) = false) (ha : ∀ b, b < nb S → rD (pb b) + 7 ≤ a) (h116 : 116 ≤ a) : ∀ (q m k : Nat) (h : am_H), LX Z S pb h → VP S h a n f p c l k → k + m = 24 → m < q →
    ∃ h', F_X8_addUp_2 q 1 a (nI k) h = some h' ∧ LX Z S pb h' ∧ VP S h' a n f p c l 24 ∧ Fr (inV a) h h'
  | 0, m, k, h, L, V, h1, h2 => by omega
  | q + 1, 0, k, h, L, V, h1, h2 => by
    have ek : k = 24 := by omega
    subst ek
    rw [F_X8_addUp_2, if_pos (show (24 : Int32) ≤ nI 24 from nI_le (a := 24) (by omega) (by omega))]
    exact ⟨h, rfl, L, V, Fr.rf⟩
  | q + 1, m + 1, k, h, L, V, h1, h2 => by
    rw [F_X8_addUp_2, if_neg (show ¬ (24 : Int32) ≤ nI k from nI_ge (b := 24) (by omega) (by decide))]
    obtain ⟨h1', e1, V1, G1⟩ := add_16 (K := F_X8_addUp_2 q) w hn hf (show k < 24 by omega) L V am_F n 0 (by omega) (by show _ < 100000; omega)
    have L1 := L.fr G1 (by unfold inV; omega) (by unfold inV; omega) (fun b hb q h1 h2 => by have := ha b hb; unfold inV; omega)
    obtain ⟨h2', e2, L2, V2, G2⟩ := add_2 w hn hf ha h116 q m (k + 1) h1' L1 V1 (by omega) (by omega)
    exact ⟨h2', (e1.trans e2), L2, V2, G1.tr G2 (fun _ z => z) (fun _ z => z)⟩
theorem keep_40 (w : WF S) (hn : n ≤ 8) (hf : ∀ i, i < n → f i < nb S ∧ tn S (f i) = false) (ha : ∀ b, b < nb S → rD (pb b) + 7 ≤ a) (h116 : 116 ≤ a) {v2 : Int32} {fp : Nat → Int32} : ∀ (q m i : Nat) (h : am_H), LX Z S pb h → RowAt h 8 8 n fp → VP S h a n f p c (sumN (fun i => ln S (f i)) i) 0 → i + m = n → m < q →
    ∃ h1, (F_X8_keepPlan_40 q 1 v2 a (nI i) h = ((am_gr 8 4 1 h1).bind fun x5 => (am_as 3 7 x5 v2 a h1).bind fun h6 => (am_gi 8 5 1 h6).bind fun x7 => (am_pi 8 5 1 (x7 + (1 : Int32)) h6).bind fun h8 => some (v2, h8))) ∧ LX Z S pb h1 ∧ VP S h1 a n f p c (sumN (fun i => ln S (f i)) n) 24 ∧ Fr (inV a) h h1
  | 0, m, i, h, L, rp, V, h1, h2 => by omega
  | q + 1, 0, i, h, L, rp, V, h1, h2 => by
    have ei : i = n := by omega
    subst ei
    obtain ⟨h', e, L', V', G⟩ := add_2 w hn hf ha h116 am_F 24 0 h L V (by omega) (by show _ < 100000; omega)
    refine ⟨h', ?_, L', V', G⟩
    rw [F_X8_keepPlan_40, L.gr (k := 6) (x := 8) (fun _ => rfl), Option.bind_some, row_length rp, Option.bind_some, if_pos (nI_le (Nat.le_refl _) (by omega))]
    unfold F_X8_addUp F_X8_addUp_b
    rw [L.ob, show (0 : Int32) = nI 0 from rfl, e, Option.bind_some]
  | q + 1, m + 1, i, h, L, rp, V, h1, h2 => by
    obtain ⟨o, ⟨g0, r0, h0⟩, ⟨g1, r1, d1⟩, ⟨g2, r2, d2⟩⟩ := id V
    obtain ⟨h1', e1, o1, G1⟩ := ob_set (k := 3) o (by show 3 < 6; omega) (nI (sumN (fun i => ln S (f i)) (i + 1)))
    have V1 : VP S h1' a n f p c (sumN (fun i => ln S (f i)) (i + 1)) 0 := ⟨o1, ⟨g0, r0.fr G1 (by omega) (by omega), h0⟩, ⟨g1, r1.fr G1 (by omega) (by omega), d1⟩, ⟨g2, r2.fr G1 (by omega) (by omega), d2⟩⟩
    have L1 := L.fr G1 (by omega) (by omega) (fun b hb q h1 h2 => by have := ha b hb; omega)
    obtain ⟨h2', e2, L2, V2, G2⟩ := keep_40 w hn hf ha h116 (v2 := v2) q m (i + 1) h1' L1 (rp.fr G1 (by omega) (by omega)) V1 (by omega) (by omega)
    refine ⟨h2', ?_, L2, V2, G1.tr G2 (fun q z => by unfold inV; omega) (fun _ z => z)⟩
    rw [F_X8_keepPlan_40, L.gr (k := 6) (x := 8) (fun _ => rfl), Option.bind_some, row_length rp, Option.bind_some, if_neg (nI_ge (by omega) (by omega)), V.fs.2.1, Option.bind_some, lengthIn_l w L V (by omega) (hf i (by omega)).1, Option.bind_some, nI_add, show sumN (fun i => ln S (f i)) i + ln S (f i) = sumN (fun i => ln S (f i)) (i + 1) from rfl, e1, Option.bind_some, nI_1]
    exact e2
theorem RX.newV (w : WF S) (C : RX Z S pb pv h) {h1 h2 : am_H} (G : Gr 7 68 h h1) (F : Fr (fun q => q = 1 ∨ q = 7 ∨ h.length < q) h1 h2) {pn : Int32} (o : am_obj 1 8 h2 = some (xfs (S_v S n f p c) pn)) (V : VP S h2 (rD (nb S + nv S)) n f p c (sumN (fun i => ln S (f i)) n) 24) {fv : Nat → Nat} (ha : am_ra 3 7 h2 = some (30, va_up fv (nv S) (rD (nb S + nv S)))) (hfv : ∀ v, v < nv S → fv v = rD (pv v)) : RX Z (S_v S n f p c) pb (updN pv (nv S) (nb S + nv S)) h2 := by
  obtain ⟨t, rfl⟩ := G.ex
  obtain ⟨⟨pn, c1⟩, ⟨f2, c2, d2⟩, ⟨f3, c3, d3⟩, ⟨f4, c4, d4⟩, -, c6, c7, c8, ⟨⟨k1, k2⟩, k3, k4, k5⟩, c10⟩ := C
  refine ⟨⟨_, o⟩, ⟨f2, (c2.app t).fr F (by omega) (by omega), d2⟩, ⟨f3, (c3.app t).fr F (by omega) (by omega), d3⟩, ⟨f4, (ra_at (F.2.2 _ (by omega))).trans (ra_app c4), d4⟩, ⟨_, ha, fun v hv => ?_⟩, fun b hb => ?_, fun v hv => ?_, (c8.app t).fr F (fun q h1 h2 => by omega), ⟨⟨fun b hb => by have := k1 b hb; show pb b < nb S + (nv S + 1); omega, fun v hv => ?_⟩, k3, fun v u hv hu e => ?_, fun b v hb hv => ?_⟩, ?_⟩
  · have hv : v < nv S + 1 := hv
    show (if v = nv S then _ else fv v) = rD (if v = nv S then _ else pv v)
    by_cases z : v = nv S
    · rw [if_pos z, if_pos z]
    · rw [if_neg z, if_neg z]; exact hfv v (by omega)
  · have := k1 b hb
    exact ((c6 b hb).app t).fr F (fun q h1 h2 => by unfold rD at h1 h2; omega)
  · have hv : v < nv S + 1 := hv
    by_cases z : v = nv S
    · have e1 : rl (S_v S n f p c) v = n := by rw [z]; exact updN_self
      have e2 : rw_ (S_v S n f p c) v = f := if_pos z
      have e3 : s1 (S_v S n f p c) v = fun k => sumN (fun i => num S (f i) k) n % 17 := if_pos z
      have e4 : s2 (S_v S n f p c) v = fun k => sumN (fun i => (i + 1) * num S (f i) k) n % 17 := if_pos z
      have e5 : pr (S_v S n f p c) v = p := if_pos z
      have e6 : fr (S_v S n f p c) v = c := by rw [z]; exact updN_self
      have e7 : plc (S_v S n f p c) v = sumN (fun i => ln S (f i)) n := by unfold plc; rw [e1, e2]; rfl
      rw [e1, e2, e3, e4, e5, e6, e7, show updN pv (nv S) (nb S + nv S) v = nb S + nv S by rw [z]; exact updN_self]
      obtain ⟨o, ⟨g0, r0, h0⟩, ⟨g1, r1, d1⟩, ⟨g2, r2, d2⟩⟩ := V
      exact ⟨o, ⟨g0, r0, h0⟩, ⟨g1, r1, d1⟩, ⟨g2, r2, d2⟩⟩
    · have e1 : rl (S_v S n f p c) v = rl S v := updN_ne z
      have e2 : rw_ (S_v S n f p c) v = rw_ S v := if_neg z
      have e3 : s1 (S_v S n f p c) v = s1 S v := if_neg z
      have e4 : s2 (S_v S n f p c) v = s2 S v := if_neg z
      have e5 : pr (S_v S n f p c) v = pr S v := if_neg z
      have e6 : fr (S_v S n f p c) v = fr S v := updN_ne z
      have e7 : plc (S_v S n f p c) v = plc S v := by unfold plc; rw [e1, e2]; rfl
      rw [e1, e2, e3, e4, e5, e6, e7, updN_ne z]
      have := k2 v (by omega)
      exact ((c7 v (by omega)).app t).fr F (fun q h1 h2 => by unfold rD at h1 h2; omega)
  · have hv : v < nv S + 1 := hv
    show updN pv (nv S) (nb S + nv S) v < nb S + (nv S + 1)
    by_cases z : v = nv S
    · rw [z, updN_self]; omega
    · rw [updN_ne z]; have := k2 v (by omega); omega
  · have hv : v < nv S + 1 := hv
    have hu : u < nv S + 1 := hu
    by_cases z : v = nv S
    · by_cases z2 : u = nv S
      · omega
      · rw [z, updN_self, updN_ne z2] at e
        have := k2 u (by omega)
        omega
    · by_cases z2 : u = nv S
      · rw [z2, updN_self, updN_ne z] at e
        have := k2 v (by omega)
        omega
      · rw [updN_ne z, updN_ne z2] at e
        exact k4 v u (by omega) (by omega) e
  · have hv : v < nv S + 1 := hv
    have := k1 b hb
    by_cases z : v = nv S
    · rw [z, updN_self]; omega
    · rw [updN_ne z]; exact k5 b v hb (by omega)
  · show h2.length = 115 + 7 * (nb S + (nv S + 1))
    rw [F.1, G.1, c10]
    omega
theorem keepPlan_t (w : WF S) (P : XP Z S pb pv h n f c) (hn : n ≤ 8) (hf : ∀ i, i < n → f i < nb S ∧ tn S (f i) = false) (hv : nv S < 30) (p : Int32) : ∃ h' pv', F_X8_keepPlan 1 p h = some (nI (nv S), h') ∧ RX Z (S_v S n f p c) pb pv' h' ∧ Kp h h' 1 := by
  obtain ⟨C, o, fp, rp, hfp⟩ := P
  have hlen := C.2.2.2.2.2.2.2.2.2
  have hnb := w.2.2.1.1
  have eD : h.length + 1 = rD (nb S + nv S) := by unfold rD; rw [hlen]; omega
  obtain ⟨f5, a5, d5⟩ := C.2.2.2.2.1
  obtain ⟨h1, g1, e1, G1, o1, ra, rb, rc, hg1⟩ := newVer (p := p) (c := nI c) (s := f) rp hn hfp
  obtain ⟨t, ht⟩ := G1.ex
  have L1 : LX Z S pb h1 := by rw [ht]; exact C.lx.app t
  have rp1 : RowAt h1 8 8 n fp := by rw [ht]; exact rp.app t
  have V1 : VP S h1 (h.length + 1) n f p c (sumN (fun i => ln S (f i)) 0) 0 := ⟨o1, ⟨g1, rc, hg1⟩, ⟨_, ra, fun j hj => by omega⟩, ⟨_, rb, fun j hj => by omega⟩⟩
  have hle : ∀ b, b < nb S → rD (pb b) + 7 ≤ h.length + 1 := fun b hb => by
    have := C.2.2.2.2.2.2.2.2.1.1.1 b hb
    unfold rD
    rw [hlen]
    omega
  obtain ⟨h2, e2, L2, V2, G2⟩ := keep_40 w hn hf hle (by rw [hlen]; omega) (v2 := nI (nv S)) am_F n 0 h1 L1 rp1 V1 (by omega) (by show _ < 100000; omega)
  have a1 : am_ra 3 7 h1 = some (30, f5) := by rw [ht]; exact ra_app a5
  have a2 := (ra_at (t := 3) (G2.2.2 7 (by unfold inV; omega))).trans a1
  have o10 : am_obj 1 8 h1 = some (xfs S (nI c)) := by rw [ht]; exact obj_app o
  have o20 := (obj_at (c := 8) (G2.2.2 1 (by unfold inV; omega))).trans o10
  obtain ⟨h3, e3, a3, F3⟩ := as_set a2 V2.1 hv (by decide)
  have o3 := (obj_at (c := 8) (F3.2.2 1 (by omega))).trans o20
  obtain ⟨h4, e4, o4, F4⟩ := ob_set (k := 5) o3 (by show 5 < 16; omega) (nI (nv S + 1))
  have o4' : am_obj 1 8 h4 = some (xfs (S_v S n f p c) (nI c)) := o4
  have a4 := (ra_at (t := 3) (F4.2.2 7 (by omega))).trans a3
  have F34 : Fr (fun q => q = 1 ∨ q = 7) h2 h4 := F3.tr F4 (fun q z => Or.inr z) (fun q z => Or.inl z)
  have F14 : Fr (fun q => q = 1 ∨ q = 7 ∨ h.length < q) h1 h4 := G2.tr F34 (fun q z => by unfold inV at z; omega) (fun q z => by omega)
  have V4 : VP S h4 (h.length + 1) n f p c (sumN (fun i => ln S (f i)) n) 24 := by
    obtain ⟨oo, ⟨g0, r0, h0⟩, ⟨ga, r1, d1⟩, ⟨gb, r2, d2⟩⟩ := V2
    exact ⟨(obj_at (F34.2.2 _ (by omega))).trans oo, ⟨g0, r0.fr F34 (by omega) (by omega), h0⟩, ⟨ga, r1.fr F34 (by omega) (by omega), d1⟩, ⟨gb, r2.fr F34 (by omega) (by omega), d2⟩⟩
  rw [eD] at V4 a4
  refine ⟨h4, _, ?_, C.newV w G1 F14 o4' V4 a4 d5, ?_⟩
  · have g57 : ∀ {h : am_H} {S : sS} {x : Int32}, am_obj 1 8 h = some (xfs S x) → am_gi 8 5 1 h = some (nI (nv S)) ∧ am_gi 8 7 1 h = some x := fun o => by unfold am_gi; rw [o]; exact ⟨rfl, rfl⟩
    have o0 : am_obj 1 8 (h ++ [.inr (.inr (7, am_flds 7))]) = some (xfs S (nI c)) := obj_app o
    have g6 : am_gr 8 6 1 (h ++ [.inr (.inr (7, am_flds 7))]) = some 8 := by unfold am_gr; rw [o0]; rfl
    unfold F_X8_keepPlan F_X8_keepPlan_b
    rw [C.ob, C.gi5, Option.bind_some, C.gr (k := 4) (x := 7) (fun _ => rfl), Option.bind_some, ln_ra a5 (by decide), Option.bind_some, if_pos (nI_lt hv (by decide)), Option.bind_some, show am_nw 7 h = some (h.length + 1, h ++ [.inr (.inr (7, am_flds 7))]) from rfl, Option.bind_some]
    show (am_gr 8 6 1 (h ++ [.inr (.inr (7, am_flds 7))])).bind _ = _
    rw [g6, Option.bind_some]
    show (am_gi 8 7 1 (h ++ [.inr (.inr (7, am_flds 7))])).bind _ = _
    rw [(g57 o0).2, Option.bind_some]
    show (F_X7_init (h.length + 1) 8 p (nI c) (h ++ [.inr (.inr (7, am_flds 7))])).bind _ = _
    rw [e1, Option.bind_some]
    show F_X8_keepPlan_40 am_F 1 (nI (nv S)) (h.length + 1) (nI 0) h1 = _
    rw [e2, L2.gr (k := 4) (x := 7) (fun _ => rfl), Option.bind_some, e3, Option.bind_some, (g57 o3).1, Option.bind_some, nI_1, e4, Option.bind_some]
  · have K1 : Kp h h1 1 := ⟨fun q h1 h2 => G1.2.2 q (by omega), by have := G1.2.1; omega⟩
    exact (K1.tr (Kp.fr G2 (fun q h1 h2 => by unfold inV; omega))).tr (Kp.fr F34 (fun q h1 h2 => by omega))
end LK
