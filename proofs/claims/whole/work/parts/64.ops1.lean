/-! entropy, clear, sign, feed, tear -/
theorem ia_set {h : am_H} {a N k : Nat} {f : Nat → Int32} (e : am_ia 0 a h = some (N, f)) (hk : k < N) (hN : N < 2 ^ 31) (x : Int32) : ∃ h', am_is 0 a (nI k) x h = some h' ∧ am_ia 0 a h' = some (N, upd f k x) ∧ Fr (fun q => q = a) h h' := by
  obtain ⟨j, rfl, hj⟩ := am_ia_spec e
  refine ⟨h.set j (.inl (0, N, upd f k x)), ?_, ia_of (at_set_self (List.getElem?_eq_some_iff.mp hj).1), Fr.set hj rfl⟩
  unfold am_is
  rw [e, Option.bind_some, ix_nI hk hN]
  rfl
theorem ob_setv {h : am_H} {a c k : Nat} {fs : List Value} (e : am_obj a c h = some fs) (hk : k < fs.length) (v : Value) : ∃ h', am_pv c k a v h = some h' ∧ am_obj a c h' = some (fs.set k v) ∧ Fr (fun q => q = a) h h' := by
  obtain ⟨j, rfl, hj⟩ := am_obj_spec e
  refine ⟨h.set j (.inr (.inr (c, fs.set k v))), ?_, obj_of (at_set_self (List.getElem?_eq_some_iff.mp hj).1), Fr.set hj (by simp [am_sz])⟩
  unfold am_pv
  rw [e, Option.bind_some, if_pos hk]
  rfl
theorem ob_set {h : am_H} {a c k : Nat} {fs : List Value} (e : am_obj a c h = some fs) (hk : k < fs.length) (x : Int32) : ∃ h', am_pi c k a x h = some h' ∧ am_obj a c h' = some (fs.set k (.int x)) ∧ Fr (fun q => q = a) h h' := ob_setv e hk _
/-! the nibble -/
theorem nib_lt (a : Int32) : ∃ k, k < 16 ∧ a &&& 15 = nI k := by
  refine ⟨(a.toBitVec &&& 15#32).toNat, ?_, ?_⟩
  · rw [BitVec.toNat_and]
    exact Nat.lt_of_le_of_lt Nat.and_le_right (by decide)
  · apply Int32.toBitVec_inj.mp
    show a.toBitVec &&& 15#32 = BitVec.ofNat 32 _
    rw [BitVec.ofNat_toNat, BitVec.setWidth_eq]
def nibI (g : Int64) (i : Int32) : Int32 := (Int64.toInt32 (g >>> (Int32.toInt64 ((4 : Int32) * i) &&& 63))) &&& (15 : Int32)
def nib (g : Int64) (i : Nat) : Nat := (nibI g (nI i)).toNatClampNeg
theorem nib_spec (g : Int64) (i : Nat) : nib g i < 16 ∧ nibI g (nI i) = nI (nib g i) := by
  unfold nib
  obtain ⟨k, hk, e⟩ := nib_lt (Int64.toInt32 (g >>> (Int32.toInt64 ((4 : Int32) * nI i) &&& 63)))
  unfold nibI
  rw [e, cl_nI (by omega)]
  exact ⟨hk, rfl⟩
theorem nib_and (x : Int64) : Int64.toInt32 (x &&& (15 : Int64)) = (Int64.toInt32 x) &&& (15 : Int32) := by
  rw [Int64.toInt32_and]
  rfl
def updN (f : Nat → Nat) (k x : Nat) : Nat → Nat := fun j => if j = k then x else f j
def fdd (g : Int64) : Nat → Nat → (Nat → Nat) → Nat → Nat
  | 0, _, f => f
  | k + 1, m, f => fdd g k (m + 1) (updN f m (nib g k))
theorem fdd_lt (g : Int64) : ∀ k m f, (∀ j, j < m → f j < 16) → ∀ j, j < m + k → fdd g k m f j < 16
  | 0, m, f, h, j, hj => h j (by omega)
  | k + 1, m, f, h, j, hj => by
    refine fdd_lt g k (m + 1) _ (fun q hq => ?_) j (by omega)
    unfold updN
    split
    · exact (nib_spec g k).1
    · exact h q (by omega)
def sp_feed (S : sS) (n : Int32) (g : Int64) : Int32 × sS := if 1 ≤ n.toInt ∧ n.toInt ≤ 15 then (if nd S + n.toNatClampNeg ≤ 96 then (nI (nd S + n.toNatClampNeg), S_d S (nd S + n.toNatClampNeg) (fdd g n.toNatClampNeg (nd S) (dr S))) else (-100004, S)) else (-100002, S)
theorem WF_feed {S : sS} (w : WF S) (n : Int32) (g : Int64) : WF (sp_feed S n g).2 := by
  unfold sp_feed
  split
  · split
    · next h => exact ⟨⟨h, fdd_lt g _ _ _ w.1.2⟩, w.2⟩
    · exact w
  · exact w
theorem pre_nI (k : Nat) : nI (k + 1) - 1 = nI k := by rw [show (1 : Int32) = nI 1 from rfl, nI_subN (by omega)]; rfl
theorem dn_nI (k : Nat) : nI k + -1 = nI k - 1 := (Int32.sub_eq_add_neg _ _).symm
theorem m1_lt : nI 0 - 1 < 0 := by decide
section FD
variable {X : Fin 87 → am_C} {Y : am_H}
theorem mfeed_loop (g : Int64) : ∀ (n k m : Nat) (I : Nat → Int32) (A : Nat → Nat → Int32) (f : Nat → Nat), m + k ≤ 96 → k < n → I 0 = nI m → (∀ j, j < m → A 1 j = nI (f j)) →
    ∃ I' A', F_X9_feed_34 n 88 g (nI k - 1) (md X I A Y) = some (nI (m + k), md X I' A' Y) ∧ I' 0 = nI (m + k) ∧ (∀ j, j < m + k → A' 1 j = nI (fdd g k m f j)) ∧ (∀ q, q ≠ 0 → I' q = I q) ∧ ∀ q, q ≠ 1 → A' q = A q
  | 0, k, m, I, A, f, h1, h2, h3, h4 => by omega
  | n + 1, 0, m, I, A, f, h1, h2, h3, h4 => by
    rw [F_X9_feed_34, if_pos m1_lt]
    simp only [md_gi0, Option.bind_some, h3]
    exact ⟨I, A, rfl, h3, h4, fun _ _ => rfl, fun _ _ => rfl⟩
  | n + 1, k + 1, m, I, A, f, h1, h2, h3, h4 => by
    rw [F_X9_feed_34, pre_nI, if_neg (nI_pos (by omega))]
    have e0 : upd I 0 (nI (m + 1)) 0 = nI (m + 1) := rfl
    have en : Int64.toInt32 ((g >>> (Int32.toInt64 ((4 : Int32) * nI k) &&& 63)) &&& (15 : Int64)) = nI (nib g k) := by rw [nib_and]; exact (nib_spec g k).2
    simp only [md_gi0, md_gr1, md_is1, md_pi0, Option.bind_some, h3, en, ix_nI (show m < 96 by omega) (by decide), nI_1, dn_nI]
    obtain ⟨I', A', e, i0, a1, iq, aq⟩ := mfeed_loop g n k (m + 1) (upd I 0 (nI (m + 1))) (upA A 1 m (nI (nib g k))) (updN f m (nib g k)) (by omega) (by omega) e0 (fun j hj => by
      show upd (A 1) m (nI (nib g k)) j = nI (if j = m then _ else _)
      unfold upd
      by_cases he : j = m
      · rw [if_pos he, if_pos he]
      · rw [if_neg he, if_neg he]; exact h4 j (by omega))
    rw [show m + 1 + k = m + (k + 1) by omega] at e i0 a1
    refine ⟨I', A', e, i0, a1, fun q hq => (iq q hq).trans ?_, fun q hq => (aq q hq).trans ?_⟩
    · show upd I 0 _ q = I q
      unfold upd; rw [if_neg hq]
    · show upA A 1 _ _ q = A q
      unfold upA; rw [if_neg hq]
theorem m_feed {S : sS} {I : Nat → Int32} {A : Nat → Nat → Int32} (w : WF S) (R : RM S I A) (n : Int32) (g : Int64) : ∃ I' A', F_X9_feed 88 n g (md X I A Y) = some ((sp_feed S n g).1, md X I' A' Y) ∧ RM (sp_feed S n g).2 I' A' := by
  unfold sp_feed
  simp only [F_X9_feed, F_X9_feed_b, md_obj, Option.bind_some, in_spec, Int32.toInt_toInt64]
  rw [show (1 : Int64).toInt = 1 from rfl, show (15 : Int64).toInt = 15 from rfl]
  by_cases h : 1 ≤ n.toInt ∧ n.toInt ≤ 15
  · rw [if_pos h, if_neg i1ne0, if_pos h]
    obtain ⟨k, hk, rfl⟩ := nI_of_toInt (n := 16) (v := n) (by omega) (by omega)
    have hd := w.1.1
    rw [cl_nI (by omega)]
    simp only [md_gi0, Option.bind_some, R.1.1, nI_add]
    by_cases h2 : nd S + k ≤ 96
    · rw [if_pos (show nI (nd S + k) ≤ (96 : Int32) from nI_le h2 (by decide)), if_pos h2]
      obtain ⟨I', A', e, i0, a1, iq, aq⟩ := mfeed_loop (X := X) (Y := Y) g am_F k (nd S) I A (dr S) h2 (by show _ < 100000; omega) R.1.1 R.1.2
      refine ⟨I', A', e, ⟨i0, a1⟩, ?_⟩
      have := RM_keep (S := S) (I := I) (I' := upd I' 0 (I 0)) (A := A) (A' := fun q => if q = 1 then A 1 else A' q) R ⟨rfl, iq 2 (by decide), iq 6 (by decide), iq 39 (by decide)⟩ ⟨rfl, aq _ (by decide), aq _ (by decide), aq _ (by decide), aq _ (by decide), aq _ (by decide), aq _ (by decide), aq _ (by decide), aq _ (by decide), aq _ (by decide), aq _ (by decide)⟩
      exact this.2
    · rw [if_neg (show ¬ nI (nd S + k) ≤ (96 : Int32) from nI_ge (show 96 < nd S + k by omega) (by omega)), if_neg h2]
      exact ⟨I, A, rfl, R⟩
  · rw [if_neg h, if_pos rfl, if_neg h]
    exact ⟨I, A, rfl, R⟩
end FD
section CO
variable {Z : sZ} {S : sS} {pb pv : Nat → Nat} {h : am_H}
theorem RX.dp {h' : am_H} (C : RX Z S pb pv h) (F : Fr (fun q => 2 ≤ q ∧ q < 6) h h') {n m : Nat} {f g : Nat → Nat} (D : ∃ f', RowAt h' 2 96 n f' ∧ ∀ j, j < n → f' j = nI (f j)) (T : ∃ f', RowAt h' 4 12 m f' ∧ ∀ j, j < m → f' j = nI (g j)) : RX Z (S_p (S_d S n f) m g) pb pv h' := by
  have K := C.keep F (by omega) (by omega) (by omega) (fun q _ _ => by omega) (fun q _ => by omega)
  exact ⟨K.1, D, T, K.2.1, K.2.2.1, K.2.2.2.1, K.2.2.2.2.1, K.2.2.2.2.2.1, C.2.2.2.2.2.2.2.2.1, K.2.2.2.2.2.2⟩
theorem x_clear (w : WF S) (C : RX Z S pb pv h) : ∃ h', F_X8_clear 1 h = some ((sp_clear S).1, h') ∧ RX Z (sp_clear S).2 pb pv h' ∧ Fr (fun q => 2 ≤ q ∧ q < 6) h h' := by
  obtain ⟨f, r, hf⟩ := C.2.2.1
  obtain ⟨h', e, r', F⟩ := row_empty r
  have F' := F.mono (T := fun q => 2 ≤ q ∧ q < 6) (fun q hq => by omega)
  refine ⟨h', ?_, ?_, F'⟩
  · simp only [F_X8_clear, C.ob, F_X8_clear_b, C.gr (k := 1) (x := 4) (fun _ => rfl), Option.bind_some, row_length r, e, sp_clear]
  · obtain ⟨f2, r2, hf2⟩ := C.2.1
    exact C.dp F' ⟨f2, r2.fr F (by decide) (by decide), hf2⟩ ⟨f, r', fun j hj => by cases hj⟩
theorem x_sign (w : WF S) (C : RX Z S pb pv h) (s : Int32) : ∃ h', F_X8_sign 1 s h = some ((sp_sign S s).1, h') ∧ RX Z (sp_sign S s).2 pb pv h' ∧ Fr (fun q => 2 ≤ q ∧ q < 6) h h' := by
  unfold sp_sign
  obtain ⟨f, r, hf⟩ := C.2.2.1
  have hp := w.2.1.1
  simp only [F_X8_sign, C.ob, F_X8_sign_b, F_X8_sign_12, C.gr (k := 1) (x := 4) (fun _ => rfl), Option.bind_some, row_length r]
  have a0 : (s < (1 : Int32)) ↔ s.toInt < 1 := (lt_lit (x := s) (n := 1) (by decide)).1
  have a1 : (s ≤ (65535 : Int32)) ↔ s.toInt ≤ 65535 := (lt_lit (x := s) (n := 65535) (by decide)).2.2.1
  by_cases c1 : s.toInt < 1
  · rw [if_pos (a0.mpr c1), if_neg (fun q => by omega)]
    exact ⟨h, rfl, C, Fr.rf⟩
  · rw [if_neg (fun q => c1 (a0.mp q))]
    by_cases c2 : s.toInt ≤ 65535
    · rw [if_pos (a1.mpr c2), if_pos (show 1 ≤ s.toInt ∧ s.toInt ≤ 65535 by omega)]
      have e12 : (nI (np S) = (12 : Int32)) ↔ np S = 12 := by rw [lit, nI_eq (by omega) (by decide)]
      by_cases c3 : np S = 12
      · rw [if_pos (e12.mpr c3), if_pos c3]
        exact ⟨h, rfl, C, Fr.rf⟩
      · rw [if_neg (fun q => c3 (e12.mp q)), if_neg c3]
        obtain ⟨k, hk, rfl⟩ := nI_of_toInt (n := 65536) (v := s) (by omega) (by omega)
        obtain ⟨h', e, r', F⟩ := row_add r (by omega) (nI k)
        have F' := F.mono (T := fun q => 2 ≤ q ∧ q < 6) (fun q hq => by omega)
        obtain ⟨f2, r2, hf2⟩ := C.2.1
        have C' : RX Z (S_p (S_d S (nd S) (dr S)) (np S + 1) (fun j => if j = np S then (nI k).toNatClampNeg else pt S j)) pb pv h' := C.dp F' ⟨f2, r2.fr F (by decide) (by decide), hf2⟩ ⟨_, r', fun j hj => by
          show (if j = np S then nI k else f j) = nI (if j = np S then _ else _)
          rw [cl_nI (by omega)]
          by_cases he : j = np S
          · rw [if_pos he, if_pos he]
          · rw [if_neg he, if_neg he]; exact hf j (by omega)⟩
        refine ⟨h', ?_, C', F'⟩
        simp only [e, Option.bind_some, C'.gr (k := 1) (x := 4) (fun _ => rfl), row_length r']
    · rw [if_neg (fun q => c2 (a1.mp q)), if_neg (fun q => by omega)]
      exact ⟨h, rfl, C, Fr.rf⟩
theorem xfeed_loop (g : Int64) : ∀ (n k m : Nat) (S : sS) (h : am_H) (f : Nat → Nat), RX Z S pb pv h → nd S = m → dr S = f → m + k ≤ 96 → k < n →
    ∃ h', F_X8_feed_36 n 1 g (nI k - 1) h = some (nI (m + k), h') ∧ RX Z (S_d S (m + k) (fdd g k m f)) pb pv h' ∧ Fr (fun q => 2 ≤ q ∧ q < 6) h h'
  | 0, k, m, S, h, f, C, e1, e2, h1, h2 => by omega
  | n + 1, 0, m, S, h, f, C, e1, e2, h1, h2 => by
    obtain ⟨f2, r2, hf2⟩ := C.2.1
    rw [F_X8_feed_36, if_pos m1_lt]
    subst e1 e2
    simp only [C.gr (k := 0) (x := 2) (fun _ => rfl), Option.bind_some, row_length r2]
    exact ⟨h, rfl, C, Fr.rf⟩
  | n + 1, k + 1, m, S, h, f, C, e1, e2, h1, h2 => by
    obtain ⟨f2, r2, hf2⟩ := C.2.1
    obtain ⟨f4, r4, hf4⟩ := C.2.2.1
    subst e1 e2
    rw [F_X8_feed_36, pre_nI, if_neg (nI_pos (by omega))]
    have en : (Int64.toInt32 (g >>> (Int32.toInt64 ((4 : Int32) * nI k) &&& 63))) &&& (15 : Int32) = nI (nib g k) := (nib_spec g k).2
    obtain ⟨h1, e, r1, F1⟩ := row_add r2 (by omega) (nI (nib g k))
    have F' := F1.mono (T := fun q => 2 ≤ q ∧ q < 6) (fun q hq => by omega)
    have C' : RX Z (S_p (S_d S (nd S + 1) (updN (dr S) (nd S) (nib g k))) (np S) (pt S)) pb pv h1 := C.dp F' ⟨_, r1, fun j hj => by
      show (if j = nd S then nI (nib g k) else f2 j) = nI (if j = nd S then _ else _)
      by_cases he : j = nd S
      · rw [if_pos he, if_pos he]
      · rw [if_neg he, if_neg he]; exact hf2 j (by omega)⟩ ⟨f4, r4.fr F1 (by decide) (by decide), hf4⟩
    simp only [C.gr (k := 0) (x := 2) (fun _ => rfl), Option.bind_some, en, e, dn_nI]
    obtain ⟨h', e', C2, F2⟩ := xfeed_loop g n k (nd S + 1) _ h1 _ C' rfl rfl (by omega) (by omega)
    rw [show nd S + 1 + k = nd S + (k + 1) by omega] at e' C2
    exact ⟨h', e', C2, F'.tr F2 (fun _ q => q) (fun _ q => q)⟩
theorem x_feed (w : WF S) (C : RX Z S pb pv h) (n : Int32) (g : Int64) : ∃ h', F_X8_feed 1 n g h = some ((sp_feed S n g).1, h') ∧ RX Z (sp_feed S n g).2 pb pv h' ∧ Fr (fun q => 2 ≤ q ∧ q < 6) h h' := by
  unfold sp_feed
  obtain ⟨f, r, hf⟩ := C.2.1
  have hd := w.1.1
  simp only [F_X8_feed, C.ob, F_X8_feed_b, F_X8_feed_11, C.gr (k := 0) (x := 2) (fun _ => rfl), Option.bind_some, row_length r]
  have a0 : (n < (1 : Int32)) ↔ n.toInt < 1 := (lt_lit (x := n) (n := 1) (by decide)).1
  have a1 : (n ≤ (15 : Int32)) ↔ n.toInt ≤ 15 := (lt_lit (x := n) (n := 15) (by decide)).2.2.1
  by_cases c1 : n.toInt < 1
  · rw [if_pos (a0.mpr c1), if_neg (fun q => by omega)]
    exact ⟨h, rfl, C, Fr.rf⟩
  · rw [if_neg (fun q => c1 (a0.mp q))]
    by_cases c2 : n.toInt ≤ 15
    · rw [if_pos (a1.mpr c2), if_pos (show 1 ≤ n.toInt ∧ n.toInt ≤ 15 by omega)]
      obtain ⟨k, hk, rfl⟩ := nI_of_toInt (n := 16) (v := n) (by omega) (by omega)
      rw [cl_nI (by omega), nI_add]
      by_cases h2 : nd S + k ≤ 96
      · rw [if_pos (show nI (nd S + k) ≤ (96 : Int32) from nI_le h2 (by decide)), if_pos h2]
        exact xfeed_loop g am_F k (nd S) S h (dr S) C rfl rfl h2 (by show _ < 100000; omega)
      · rw [if_neg (show ¬ nI (nd S + k) ≤ (96 : Int32) from nI_ge (show 96 < nd S + k by omega) (by omega)), if_neg h2]
        exact ⟨h, rfl, C, Fr.rf⟩
    · rw [if_neg (fun q => c2 (a1.mp q)), if_neg (fun q => by omega)]
      exact ⟨h, rfl, C, Fr.rf⟩
end CO
section OPS2
variable {Z : sZ}
theorem Inv.fin {α : Type} {f : am_H → Option (α × am_H)} {r : α} {S' : sS} {pb pv : Nat → Nat} {X : Fin 87 → am_C} {I : Nat → Int32} {A : Nat → Nat → Int32} {Y h1 : am_H} (w' : WF S') (hr : ∀ q, 88 ≤ q → q < 116 → am_at h1 q = am_at (md X I A Y) q) (C : RX Z S' pb pv h1) (hn : am_n h1 ≤ 60000 + 200 * (nb S' + nv S')) (ref : ∀ X Y, ∃ I' A', f (md X I A Y) = some (r, md X I' A' Y) ∧ RM S' I' A') : ∃ h2, f h1 = some (r, h2) ∧ Inv Z h2 := by
  have hl := C.2.2.2.2.2.2.2.2.2
  obtain ⟨X', Y', rfl⟩ := md_in (by omega) hr
  obtain ⟨I', A', e, R'⟩ := ref X' Y'
  exact ⟨_, e, Inv.moved w' R' C hn⟩
theorem o_feed : am_op_feed (Inv Z) := by
  rintro h a0 a1 ⟨S, pb, pv, X, I, A, Y, w, R, rfl, C, hn⟩
  obtain ⟨h1, e, C', F⟩ := x_feed w C a0 a1
  obtain ⟨h2, e2, hI⟩ := Inv.fin (f := F_X9_feed 88 a0 a1) (r := (sp_feed S a0 a1).1) (WF_feed w a0 a1) (fun q q1 q2 => F.2.2 q (by omega)) C' (by rw [F.2.1]; refine Nat.le_trans hn (Nat.le_of_eq ?_); unfold sp_feed; (repeat' split) <;> rfl) (fun X Y => m_feed w R a0 a1)
  exact ⟨_, h1, h2, e, e2, hI⟩
theorem o_sign : am_op_sign (Inv Z) := by
  rintro h a0 ⟨S, pb, pv, X, I, A, Y, w, R, rfl, C, hn⟩
  obtain ⟨h1, e, C', F⟩ := x_sign w C a0
  obtain ⟨h2, e2, hI⟩ := Inv.fin (f := F_X9_sign_ 88 a0) (r := (sp_sign S a0).1) (WF_sign w a0) (fun q q1 q2 => F.2.2 q (by omega)) C' (by rw [F.2.1]; refine Nat.le_trans hn (Nat.le_of_eq ?_); unfold sp_sign; (repeat' split) <;> rfl) (fun X Y => m_sign w R a0)
  exact ⟨_, h1, h2, e, e2, hI⟩
theorem o_clear : am_op_clear (Inv Z) := by
  rintro h ⟨S, pb, pv, X, I, A, Y, w, R, rfl, C, hn⟩
  obtain ⟨h1, e, C', F⟩ := x_clear w C
  obtain ⟨h2, e2, hI⟩ := Inv.fin (f := F_X9_clear 88) (r := (sp_clear S).1) (WF_clear w) (fun q q1 q2 => F.2.2 q (by omega)) C' (by rw [F.2.1]; exact hn) (fun X Y => by obtain ⟨I', e, R'⟩ := m_clear (X := X) (Y := Y) w R; exact ⟨I', A, e, R'⟩)
  exact ⟨_, h1, h2, e, e2, hI⟩
end OPS2
