/-! seek -/
theorem and1 (x : Int32) : x &&& 1 = 0 ∨ x &&& 1 = 1 := by
  have h : x.toBitVec &&& 1#32 = 0#32 ∨ x.toBitVec &&& 1#32 = 1#32 := by
    have := BitVec.toNat_and x.toBitVec 1#32
    have h1 : (x.toBitVec &&& 1#32).toNat ≤ 1 := by rw [this]; exact Nat.and_le_right
    rcases Nat.lt_or_ge (x.toBitVec &&& 1#32).toNat 1 with c | c
    · left; apply BitVec.eq_of_toNat_eq; show _ = 0; omega
    · right; apply BitVec.eq_of_toNat_eq; show _ = 1; omega
  rcases h with h | h
  · left; exact Int32.toBitVec_inj.mp h
  · right; exact Int32.toBitVec_inj.mp h
def slI (S : sS) (v p j : Nat) : Int32 := (nI (pt S j) >>> (nI (sat S v (p + j)) &&& 31)) &&& 1
def sl (S : sS) (v p : Nat) : Nat := cntN (fun j => slI S v p j == 0) (np S)
/-- from place p on, m found so far, q places left -/
def skF (S : sS) (v k : Nat) (i : Int32) : Nat → Nat → Nat → Int32
  | 0, _, m => if i = -1 then nI m else -1
  | q + 1, p, m => if sl S v p ≤ k then (if nI m = i then nI p else skF S v k i q (p + 1) (m + 1)) else skF S v k i q (p + 1) m
def sp_seek (S : sS) (v k i : Int32) : Int32 := if vd (nv S) v then (if 0 ≤ k.toInt ∧ k.toInt ≤ 3 then (if np S = 0 then -100003 else if trn S v.toNatClampNeg = 0 then skF S v.toNatClampNeg k.toNatClampNeg i (plc S v.toNatClampNeg + 1 - np S) 0 0 else -100005) else -100002) else -100001
theorem sl_le (S : sS) (v p : Nat) : sl S v p ≤ np S := cntN_le _ _
theorem trn_le {S : sS} (w : WF S) {v : Nat} (hv : v < nv S) : trn S v ≤ 8 := by
  have h1 := (w.2.2.2.2 v hv).1
  unfold trn
  rw [sumN_bN]
  exact Nat.le_trans (cntN_le _ _) h1.1
section SK
variable {Z : sZ} {S : sS} {pb pv : Nat → Nat} {h : am_H}
theorem slipsAt_loop (w : WF S) (C : RX Z S pb pv h) {v p : Nat} (hv : v < nv S) {f : Nat → Int32} (r : RowAt h 12 192 (plc S v) f) (hf : ∀ q, q < plc S v → f q = nI (sat S v q)) (hp : p + np S ≤ plc S v) : ∀ (q k j : Nat), j + k = np S → k < q → F_X8_slipsAt_4 q 1 (nI p) (nI (cntN (fun j => slI S v p j == 0) j)) (nI j) h = some (nI (sl S v p))
  | 0, k, j, h1, h2 => by omega
  | q + 1, 0, j, h1, h2 => by
    have hn := w.2.1.1
    obtain ⟨f2, r2, hf2⟩ := C.2.2.1
    rw [F_X8_slipsAt_4]
    simp only [C.gr (k := 1) (x := 4) (fun _ => rfl), Option.bind_some, row_length r2]
    rw [if_pos (nI_le (by omega) (by omega)), show j = np S by omega]
    rfl
  | q + 1, k + 1, j, h1, h2 => by
    have hn := w.2.1.1
    have hl := plc_le w hv
    have hj : j < np S := by omega
    obtain ⟨f2, r2, hf2⟩ := C.2.2.1
    have ih := slipsAt_loop w C hv r hf hp q k (j + 1) (by omega) (by omega)
    rw [show cntN (fun j => slI S v p j == 0) (j + 1) = cntN (fun j => slI S v p j == 0) j + bN (slI S v p j == 0) from rfl] at ih
    rw [F_X8_slipsAt_4]
    simp only [C.gr (k := 1) (x := 4) (fun _ => rfl), C.gr (k := 9) (x := 12) (fun _ => rfl), Option.bind_some, row_length r2]
    rw [if_neg (nI_ge (by omega) (by omega))]
    simp only [row_at r2 hj, hf2 j hj, Option.bind_some, nI_add, row_at r (show p + j < plc S v by omega), hf (p + j) (by omega), F_X8_slipsAt_42, nI_1]
    by_cases c : slI S v p j = 0
    · rw [show (slI S v p j == 0) = true by simpa using c] at ih
      rw [if_pos (show (nI (pt S j) >>> (nI (sat S v (p + j)) &&& 31)) &&& 1 = 0 from c)]
      exact ih
    · rw [show (slI S v p j == 0) = false by simpa using c] at ih
      rw [if_neg (show ¬ (nI (pt S j) >>> (nI (sat S v (p + j)) &&& 31)) &&& 1 = 0 from c)]
      exact ih
theorem seek_loop (w : WF S) (C : RX Z S pb pv h) {v kk : Nat} {i : Int32} (hv : v < nv S) (hkk : kk ≤ 3) (hz : 0 < np S) {f : Nat → Int32} (r : RowAt h 12 192 (plc S v) f) (hf : ∀ q, q < plc S v → f q = nI (sat S v q)) : ∀ (q k p m : Nat), k = plc S v + 1 - np S - p → k < q → p ≤ plc S v + 1 → m ≤ p → F_X8_seek_64 q 1 (nI kk) i (nI m) (nI p) h = some (skF S v kk i k p m, h)
  | 0, k, p, m, h1, h2, h3, h4 => by omega
  | q + 1, k, p, m, h1, h2, h3, h4 => by
    have hn := w.2.1.1
    have hl := plc_le w hv
    obtain ⟨f2, r2, hf2⟩ := C.2.2.1
    rw [F_X8_seek_64]
    simp only [C.gr (k := 1) (x := 4) (fun _ => rfl), C.gr (k := 9) (x := 12) (fun _ => rfl), Option.bind_some, row_length r2, row_length r, nI_add, F_X8_seek_123, F_X8_seek_106, nI_1]
    cases k with
    | zero =>
      rw [if_pos (nI_lt (by omega) (by omega))]
      unfold skF
      by_cases c : i = -1
      · rw [if_pos c, if_pos c]
      · rw [if_neg c, if_neg c]
    | succ k =>
      have hs : F_X8_slipsAt 1 (nI p) h = some (nI (sl S v p)) := by
        simp only [F_X8_slipsAt, C.ob, F_X8_slipsAt_b]
        exact slipsAt_loop w C hv r hf (by omega) am_F (np S) 0 (by omega) (by show _ < 100000; omega)
      have hsl := sl_le S v p
      rw [if_neg (nI_nlt (by omega) (by omega))]
      simp only [hs, Option.bind_some]
      unfold skF
      by_cases c : sl S v p ≤ kk
      · rw [if_neg (nI_nlt (by omega) (by omega)), if_pos c]
        by_cases c2 : nI m = i
        · rw [if_pos c2, if_pos c2]
        · rw [if_neg c2, if_neg c2]
          exact seek_loop w C hv hkk hz r hf q k (p + 1) (m + 1) (by omega) (by omega) (by omega) (by omega)
      · rw [if_pos (nI_lt (by omega) (by omega)), if_neg c]
        exact seek_loop w C hv hkk hz r hf q k (p + 1) m (by omega) (by omega) (by omega) (by omega)
theorem x_seek (w : WF S) (C : RX Z S pb pv h) (v k i : Int32) : ∃ h', F_X8_seek 1 v k i h = some (sp_seek S v k i, h') ∧ RX Z S pb pv h' ∧ Fr (fun q => q = 12 ∨ q = 13) h h' := by
  unfold sp_seek
  by_cases hv : vd (nv S) v
  · obtain ⟨u, hu, rfl⟩ := nI_of_toInt hv.1 hv.2
    have hn := w.2.2.2.1
    have hp := w.2.1.1
    have hl := plc_le w hu
    have ht := trn_le w hu
    obtain ⟨f2, r2, hf2⟩ := C.2.2.1
    rw [if_pos hv, cl_nI (show u < 2 ^ 31 by omega)]
    simp only [F_X8_seek, C.ob, F_X8_seek_b, F_X8_seek_24, versionOf_t w C hu, Option.bind_some, if_neg (rD_ne _), C.gr (k := 1) (x := 4) (fun _ => rfl), row_length r2, tornBlocks_t w C hu]
    have a0 : (k < (0 : Int32)) ↔ k.toInt < 0 := (lt_lit (x := k) (n := 0) (by decide)).1
    have a1 : (k ≤ (3 : Int32)) ↔ k.toInt ≤ 3 := (lt_lit (x := k) (n := 3) (by decide)).2.2.1
    by_cases c1 : k.toInt < 0
    · rw [if_pos (a0.mpr c1), if_neg (fun q => by omega)]
      exact ⟨h, rfl, C, Fr.rf⟩
    · rw [if_neg (fun q => c1 (a0.mp q))]
      by_cases c2 : k.toInt ≤ 3
      · rw [if_pos (a1.mpr c2), if_pos (show 0 ≤ k.toInt ∧ k.toInt ≤ 3 by omega)]
        obtain ⟨kk, hkk, rfl⟩ := nI_of_toInt (n := 4) (v := k) (by omega) (by omega)
        rw [cl_nI (show kk < 2 ^ 31 by omega)]
        by_cases c3 : np S = 0
        · rw [if_pos (show nI (np S) = 0 by rw [c3]; rfl), if_pos c3]
          exact ⟨h, rfl, C, Fr.rf⟩
        · rw [if_neg (nI_ne0 (by omega) (by omega)), if_neg c3]
          by_cases c4 : trn S u = 0
          · rw [if_pos (show nI (trn S u) ≤ 0 by rw [c4]; decide), if_pos c4]
            obtain ⟨h', f', e, C', r', hf', F⟩ := openAll_t w C hu
            refine ⟨h', ?_, C', F⟩
            simp only [e, Option.bind_some]
            exact seek_loop w C' hu (by omega) (by omega) r' (fun q hq => hf' q hq (trn_0 c4 _ (loc_spec hq).1)) am_F (plc S u + 1 - np S) 0 0 (by omega) (by show _ < 100000; omega) (by omega) (by omega)
          · rw [if_neg (nI_nle (by omega) (by omega)), if_neg c4]
            exact ⟨h, rfl, C, Fr.rf⟩
      · rw [if_neg (fun q => c2 (a1.mp q)), if_neg (fun q => by omega)]
        exact ⟨h, rfl, C, Fr.rf⟩
  · rw [if_neg hv]
    refine ⟨h, ?_, C, Fr.rf⟩
    simp only [F_X8_seek, C.ob, F_X8_seek_b, versionOf_f w C hv, Option.bind_some, if_true]
end SK
section SKM
variable {X : Fin 87 → am_C} {A : Nat → Nat → Int32} {Y : am_H} {S : sS}
theorem signAt_spec {I : Nat → Int32} (w : WF S) (R : RM S I A) {v p : Nat} (hv : v < nv S) (hp : p < plc S v) : F_X9_signAt 88 (nI v) (nI p) (md X I A Y) = some (nI (sat S v p), md X (upd (upd I 18 (nI (loc S v p).1)) 19 (nI (loc S v p).2)) A Y) := by
  obtain ⟨l1, l2, l3⟩ := loc_spec hp
  have hb := (w.2.2.2.2 v hv).1.2 _ l1
  have R2 := RM_f R (nI (loc S v p).1) (nI (loc S v p).2)
  have e18 : (upd (upd I 18 (nI (loc S v p).1)) 19 (nI (loc S v p).2)) 18 = nI (loc S v p).1 := rfl
  have e19 : (upd (upd I 18 (nI (loc S v p).1)) 19 (nI (loc S v p).2)) 19 = nI (loc S v p).2 := rfl
  unfold F_X9_signAt F_X9_signAt_b sat
  rw [md_obj, Option.bind_some, find_spec w R hv hp, Option.bind_some, md_gi18, e18, Option.bind_some, A8 w R2 hv l1, Option.bind_some, md_gi19, e19, Option.bind_some, A4 w R2 hb l2, Option.bind_some]
theorem mseek_in {K : Nat → Int32 → Int32 → Int32 → Int32 → Int32 → Int32 → Int32 → am_H → Option (Int32 × am_H)} (w : WF S) {v p kk m : Nat} {i t : Int32} (hv : v < nv S) (hkk : kk ≤ 3) (hm : m < 1000) (hp : p + np S ≤ plc S v) : ∀ (q k j : Nat) (I : Nat → Int32), RM S I A → j + k = np S → k < q →
    ∃ I', F_X9_seek_81 K q 88 (nI v) (nI kk) i (nI m) t (nI (plc S v)) (nI p) (nI (cntN (fun j => slI S v p j == 0) j)) (nI j) (md X I A Y) = (if sl S v p ≤ kk then K 88 (nI v) (nI kk) i (nI (m + 1)) (if nI m = i then nI p else t) (nI (plc S v)) (nI (p + 1)) (md X I' A Y) else K 88 (nI v) (nI kk) i (nI m) t (nI (plc S v)) (nI (p + 1)) (md X I' A Y)) ∧ RM S I' A
  | 0, k, j, I, R, h1, h2 => by omega
  | q + 1, 0, j, I, R, h1, h2 => by
    have hn := w.2.1.1
    have hsl := sl_le S v p
    rw [F_X9_seek_81]
    simp only [md_gi39, Option.bind_some, R.2.1.1, F_X9_seek_147, F_X9_seek_142, nI_1]
    rw [if_pos (nI_le (by omega) (by omega)), show j = np S by omega]
    refine ⟨I, ?_, R⟩
    show (if nI kk < nI (sl S v p) then _ else _) = _
    by_cases c : sl S v p ≤ kk
    · rw [if_neg (nI_nlt (by omega) (by omega)), if_pos c]
      by_cases c2 : nI m = i
      · rw [if_pos c2, if_pos c2]
      · rw [if_neg c2, if_neg c2]
    · rw [if_pos (nI_lt (by omega) (by omega)), if_neg c]
  | q + 1, k + 1, j, I, R, h1, h2 => by
    have hn := w.2.1.1
    have hj : j < np S := by omega
    obtain ⟨I', ih, R'⟩ := mseek_in (K := K) (m := m) (i := i) (t := t) w hv hkk hm hp q k (j + 1) (upd (upd I 18 (nI (loc S v (p + j)).1)) 19 (nI (loc S v (p + j)).2)) (RM_f R _ _) (by omega) (by omega)
    refine ⟨I', ?_, R'⟩
    rw [show cntN (fun j => slI S v p j == 0) (j + 1) = cntN (fun j => slI S v p j == 0) j + bN (slI S v p j == 0) from rfl] at ih
    rw [F_X9_seek_81]
    simp only [md_gi39, md_gr40, md_il40, Option.bind_some, R.2.1.1]
    rw [if_neg (nI_ge (by omega) (by omega))]
    simp only [ix_nI (show j < 12 by omega) (by decide), Option.bind_some, R.2.1.2 j hj, nI_add, signAt_spec w R hv (show p + j < plc S v by omega), nI_1]
    rw [show (nI (pt S j) >>> (nI (sat S v (p + j)) &&& 31)) &&& 1 = slI S v p j from rfl]
    rcases and1 (nI (pt S j) >>> (nI (sat S v (p + j)) &&& 31)) with c | c
    · have c' : slI S v p j = 0 := c
      rw [c'] at ih ⊢
      rw [show (1 : Int32) - 0 = nI 1 from rfl, nI_add]
      exact ih
    · have c' : slI S v p j = 1 := c
      rw [c'] at ih ⊢
      rw [show (1 : Int32) - 1 = nI 0 from rfl, nI_add]
      exact ih
theorem mseek_A (w : WF S) {v kk : Nat} {i t : Int32} (hv : v < nv S) (hkk : kk ≤ 3) (hz : 0 < np S) : ∀ (q k p m : Nat) (I : Nat → Int32), RM S I A → k = plc S v + 1 - np S - p → k < q → p ≤ plc S v + 1 → m ≤ p → (∃ j, j < m ∧ i = nI j) →
    ∃ I', F_X9_seek_63 q 88 (nI v) (nI kk) i (nI m) t (nI (plc S v)) (nI p) (md X I A Y) = some (t, md X I' A Y) ∧ RM S I' A
  | 0, k, p, m, I, R, h1, h2, h3, h4, h5 => by omega
  | q + 1, k, p, m, I, R, h1, h2, h3, h4, h5 => by
    have hn := w.2.1.1
    have hl := plc_le w hv
    obtain ⟨j0, hj0, hi⟩ := id h5
    rw [F_X9_seek_63]
    simp only [md_gi39, Option.bind_some, R.2.1.1, nI_add, F_X9_seek_165]
    cases k with
    | zero =>
      rw [if_pos (nI_lt (by omega) (by omega)), if_neg]
      · exact ⟨I, rfl, R⟩
      · intro e
        have h6 : nI j0 < 0 := by rw [← hi, e]; decide
        exact nI_pos (by omega) h6
    | succ k =>
      rw [if_neg (nI_nlt (by omega) (by omega))]
      obtain ⟨I1, e1, R1⟩ := mseek_in (X := X) (Y := Y) (K := F_X9_seek_63 q) (p := p) (m := m) (i := i) (t := t) w hv hkk (by omega) (by omega) am_F (np S) 0 I R (by omega) (by show _ < 100000; omega)
      rw [show cntN (fun j => slI S v p j == 0) 0 = 0 from rfl] at e1
      rw [show (0 : Int32) = nI 0 from rfl, e1]
      by_cases c : sl S v p ≤ kk
      · rw [if_pos c, if_neg (fun e => by rw [hi] at e; have := (nI_eq (by omega) (by omega)).mp e; omega)]
        exact mseek_A w hv hkk hz q k (p + 1) (m + 1) I1 R1 (by omega) (by omega) (by omega) (by omega) ⟨j0, by omega, hi⟩
      · rw [if_neg c]
        exact mseek_A w hv hkk hz q k (p + 1) m I1 R1 (by omega) (by omega) (by omega) (by omega) h5
theorem mseek_B (w : WF S) {v kk : Nat} {i : Int32} (hv : v < nv S) (hkk : kk ≤ 3) (hz : 0 < np S) : ∀ (q k p m : Nat) (I : Nat → Int32), RM S I A → k = plc S v + 1 - np S - p → k < q → p ≤ plc S v + 1 → m ≤ p →
    ∃ I', F_X9_seek_63 q 88 (nI v) (nI kk) i (nI m) (-1) (nI (plc S v)) (nI p) (md X I A Y) = some (skF S v kk i k p m, md X I' A Y) ∧ RM S I' A
  | 0, k, p, m, I, R, h1, h2, h3, h4 => by omega
  | q + 1, k, p, m, I, R, h1, h2, h3, h4 => by
    have hn := w.2.1.1
    have hl := plc_le w hv
    rw [F_X9_seek_63]
    simp only [md_gi39, Option.bind_some, R.2.1.1, nI_add, F_X9_seek_165]
    cases k with
    | zero =>
      rw [if_pos (nI_lt (by omega) (by omega))]
      unfold skF
      by_cases c : i = -1
      · rw [if_pos c, if_pos c]
        exact ⟨I, rfl, R⟩
      · rw [if_neg c, if_neg c]
        exact ⟨I, rfl, R⟩
    | succ k =>
      rw [if_neg (nI_nlt (by omega) (by omega))]
      obtain ⟨I1, e1, R1⟩ := mseek_in (X := X) (Y := Y) (K := F_X9_seek_63 q) (p := p) (m := m) (i := i) (t := -1) w hv hkk (by omega) (by omega) am_F (np S) 0 I R (by omega) (by show _ < 100000; omega)
      rw [show cntN (fun j => slI S v p j == 0) 0 = 0 from rfl] at e1
      rw [show (0 : Int32) = nI 0 from rfl, e1]
      unfold skF
      by_cases c : sl S v p ≤ kk
      · rw [if_pos c, if_pos c]
        by_cases c2 : nI m = i
        · rw [if_pos c2, if_pos c2]
          exact mseek_A w hv hkk hz q k (p + 1) (m + 1) I1 R1 (by omega) (by omega) (by omega) (by omega) ⟨m, by omega, c2.symm⟩
        · rw [if_neg c2, if_neg c2]
          exact mseek_B w hv hkk hz q k (p + 1) (m + 1) I1 R1 (by omega) (by omega) (by omega) (by omega)
      · rw [if_neg c, if_neg c]
        exact mseek_B w hv hkk hz q k (p + 1) m I1 R1 (by omega) (by omega) (by omega) (by omega)
theorem m_seek {I : Nat → Int32} (w : WF S) (R : RM S I A) (v k i : Int32) : ∃ I' A', F_X9_seek 88 v k i (md X I A Y) = some (sp_seek S v k i, md X I' A' Y) ∧ RM S I' A' := by
  unfold sp_seek
  by_cases hv : vd (nv S) v
  · obtain ⟨u, hu, rfl⟩ := nI_of_toInt hv.1 hv.2
    have hn := w.2.2.2.1
    have hp := w.2.1.1
    have hl := plc_le w hu
    have ht := trn_le w hu
    rw [if_pos hv, cl_nI (show u < 2 ^ 31 by omega)]
    unfold F_X9_seek F_X9_seek_b
    rw [md_obj, Option.bind_some, noV_t w R hv, Option.bind_some, if_pos rfl, in_spec, Option.bind_some, Int32.toInt_toInt64, show (0 : Int64).toInt = 0 from rfl, show (3 : Int64).toInt = 3 from rfl]
    by_cases c1 : 0 ≤ k.toInt ∧ k.toInt ≤ 3
    · rw [if_pos c1, if_neg i1ne0, if_pos c1]
      obtain ⟨kk, hkk, rfl⟩ := nI_of_toInt (n := 4) (v := k) (by omega) (by omega)
      rw [cl_nI (show kk < 2 ^ 31 by omega), md_gi39, Option.bind_some, R.2.1.1]
      by_cases c3 : np S = 0
      · rw [if_pos (show nI (np S) = 0 by rw [c3]; rfl), if_pos c3]
        exact ⟨I, A, rfl, R⟩
      · rw [if_neg (nI_ne0 (by omega) (by omega)), if_neg c3, tornIn_spec w R hu, Option.bind_some]
        by_cases c4 : trn S u = 0
        · rw [if_pos (show nI (trn S u) ≤ 0 by rw [c4]; decide), if_pos c4]
          obtain ⟨I', e, R'⟩ := mseek_B (X := X) (Y := Y) (i := i) w hu (show kk ≤ 3 by omega) (by omega) am_F (plc S u + 1 - np S) 0 0 I R (by omega) (by show _ < 100000; omega) (by omega) (by omega)
          refine ⟨I', A, ?_, R'⟩
          rw [placesOf_spec w R hu, Option.bind_some, show (0 : Int32) = nI 0 from rfl]
          exact e
        · rw [if_neg (nI_nle (by omega) (by omega)), if_neg c4]
          exact ⟨I, A, rfl, R⟩
    · rw [if_neg c1, if_pos rfl, if_neg c1]
      exact ⟨I, A, rfl, R⟩
  · rw [if_neg hv]
    refine ⟨I, A, ?_, R⟩
    simp only [F_X9_seek, F_X9_seek_b, md_obj, Option.bind_some, noV_f w R hv, if_neg i1ne0]
end SKM
section OPS5
variable {Z : sZ}
theorem o_seek : am_op_seek (Inv Z) := by
  rintro h a0 a1 a2 ⟨S, pb, pv, X, I, A, Y, w, R, rfl, C, hn⟩
  obtain ⟨h1, e, C', F⟩ := x_seek w C a0 a1 a2
  obtain ⟨h2, e2, hI⟩ := Inv.fin (f := F_X9_seek 88 a0 a1 a2) (r := sp_seek S a0 a1 a2) w (fun q q1 q2 => F.2.2 q (by omega)) C' (by rw [F.2.1]; exact hn) (fun X Y => m_seek w R a0 a1 a2)
  exact ⟨_, h1, h2, e, e2, hI⟩
end OPS5
