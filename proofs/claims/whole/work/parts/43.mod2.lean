/-! what the calls answer, in numbers; the reference's side -/
abbrev vd (n : Nat) (v : Int32) : Prop := 0 ≤ v.toInt ∧ v.toInt < n
theorem i1ne0 : ¬ (1 : Int32) = 0 := by decide
theorem vd_nI {n k : Nat} (h : k < n) (hn : n < 2 ^ 31) : vd n (nI k) := by
  unfold vd
  rw [nI_toInt (by omega)]
  omega
theorem cl_nI {k : Nat} (h : k < 2 ^ 31) : (nI k).toNatClampNeg = k := nI_clamp h
def cntN (p : Nat → Bool) : Nat → Nat
  | 0 => 0
  | n + 1 => cntN p n + bN (p n)
theorem cntN_le (p : Nat → Bool) : ∀ n, cntN p n ≤ n
  | 0 => Nat.le_refl _
  | n + 1 => by
    have := cntN_le p n
    simp only [cntN]
    cases p n <;> simp [bN] <;> omega
def anyN (p : Nat → Bool) : Nat → Bool
  | 0 => false
  | n + 1 => anyN p n || p n
/-- does version v have block b -/
def hasB (S : sS) (v b : Nat) : Bool := anyN (fun i => rw_ S v i == b) (rl S v)
/-- which block of the row holds the place, and where in it: from index i on -/
def locF (S : sS) (v : Nat) : Nat → Nat → Nat → Nat × Nat
  | 0, i, p => (i, p)
  | n + 1, i, p => if p < ln S (rw_ S v i) then (i, p) else locF S v n (i + 1) (p - ln S (rw_ S v i))
def loc (S : sS) (v p : Nat) : Nat × Nat := locF S v (rl S v) 0 p
theorem locF_spec (S : sS) (v : Nat) : ∀ (n i p : Nat), i + n = rl S v → p < sumN (fun i => ln S (rw_ S v i)) (rl S v) - sumN (fun i => ln S (rw_ S v i)) i → (locF S v n i p).1 < rl S v ∧ (locF S v n i p).2 < ln S (rw_ S v (locF S v n i p).1) ∧ sumN (fun i => ln S (rw_ S v i)) (locF S v n i p).1 + (locF S v n i p).2 = sumN (fun i => ln S (rw_ S v i)) i + p
  | 0, i, p, h1, h2 => by
    rw [show i = rl S v by omega, Nat.sub_self] at h2
    omega
  | n + 1, i, p, h1, h2 => by
    unfold locF
    by_cases hc : p < ln S (rw_ S v i)
    · rw [if_pos hc]
      exact ⟨by omega, hc, rfl⟩
    · rw [if_neg hc]
      have hs : sumN (fun i => ln S (rw_ S v i)) (i + 1) = sumN (fun i => ln S (rw_ S v i)) i + ln S (rw_ S v i) := rfl
      have := locF_spec S v n (i + 1) (p - ln S (rw_ S v i)) (by omega) (by omega)
      exact ⟨this.1, this.2.1, by omega⟩
theorem loc_spec {S : sS} {v p : Nat} (h : p < plc S v) : (loc S v p).1 < rl S v ∧ (loc S v p).2 < ln S (rw_ S v (loc S v p).1) ∧ sumN (fun i => ln S (rw_ S v i)) (loc S v p).1 + (loc S v p).2 = p := by
  have := locF_spec S v (rl S v) 0 p (by omega) (show p < plc S v - 0 by omega)
  simpa [sumN, loc] using this
section M3
variable {X : Fin 87 → am_C} {I : Nat → Int32} {A : Nat → Nat → Int32} {Y : am_H} {S : sS}
theorem noV_t (w : WF S) (R : RM S I A) {v : Int32} (h : vd (nv S) v) : F_X9_noVersion 88 v (md X I A Y) = some 0 := by
  rw [noVersion_spec R.2.2.2.1 (by have := w.2.2.2.1; omega), if_pos h]
theorem noV_f (w : WF S) (R : RM S I A) {v : Int32} (h : ¬ vd (nv S) v) : F_X9_noVersion 88 v (md X I A Y) = some 1 := by
  rw [noVersion_spec R.2.2.2.1 (by have := w.2.2.2.1; omega), if_neg h]
theorem noB_t (w : WF S) (R : RM S I A) {v : Int32} (h : vd (nb S) v) : F_X9_noBlock 88 v (md X I A Y) = some 0 := by
  rw [noBlock_spec R.2.2.1.1 (by have := w.2.2.1.1; omega), if_pos h]
theorem noB_f (w : WF S) (R : RM S I A) {v : Int32} (h : ¬ vd (nb S) v) : F_X9_noBlock 88 v (md X I A Y) = some 1 := by
  rw [noBlock_spec R.2.2.1.1 (by have := w.2.2.1.1; omega), if_neg h]
theorem A7 (w : WF S) (R : RM S I A) {v : Nat} (hv : v < nv S) : am_il 0 93 (nI v) (md X I A Y) = some (nI (rl S v)) := by
  rw [md_il7, ix_nI (show v < 30 by have := w.2.2.2.1; omega) (by decide), Option.bind_some, (R.2.2.2.2 v hv).1]
theorem A8 (w : WF S) (R : RM S I A) {v i : Nat} (hv : v < nv S) (hi : i < rl S v) : F_X9_blockAt 88 (nI v) (nI i) (md X I A Y) = some (nI (rw_ S v i)) := by
  have := (w.2.2.2.2 v hv).1
  rw [blockAt_spec (by have := w.2.2.2.1; omega), (R.2.2.2.2 v hv).2.1 i hi]
theorem A3 (w : WF S) (R : RM S I A) {b : Nat} (hb : b < nb S) : am_il 0 90 (nI b) (md X I A Y) = some (nI (ln S b)) := by
  rw [md_il3, ix_nI (show b < 200 by have := w.2.2.1.1; omega) (by decide), Option.bind_some, (R.2.2.1.2 b hb).1]
theorem A5 (w : WF S) (R : RM S I A) {b : Nat} (hb : b < nb S) : am_il 1 92 (nI b) (md X I A Y) = some (bI (tn S b)) := by
  rw [md_il5, ix_nI (show b < 200 by have := w.2.2.1.1; omega) (by decide), Option.bind_some, (R.2.2.1.2 b hb).2.2]
theorem A4 (w : WF S) (R : RM S I A) {b k : Nat} (hb : b < nb S) (hk : k < ln S b) : F_X9_sign 88 (nI b) (nI k) (md X I A Y) = some (nI (sg S b k)) := by
  have := (w.2.2.1.2 b hb).1
  rw [sign_spec (by have := w.2.2.1.1; omega), (R.2.2.1.2 b hb).2.1 k hk]
/-! about, block -/
def sp_about (S : sS) (v x : Int32) : Int32 := if vd (nv S) v then (if x = 0 then nI (plc S v.toNatClampNeg) else if x = 1 then nI (rl S v.toNatClampNeg) else if x = 2 then pr S v.toNatClampNeg else if x = 3 then nI (fr S v.toNatClampNeg) else if x = 4 then nI (trn S v.toNatClampNeg) else -100002) else -100001
theorem m_about (w : WF S) (R : RM S I A) (v x : Int32) : F_X9_about 88 v x (md X I A Y) = some (sp_about S v x) := by
  unfold sp_about
  by_cases h : vd (nv S) v
  · rw [if_pos h]
    obtain ⟨k, hk, rfl⟩ := nI_of_toInt h.1 h.2
    have hk30 : k < 30 := Nat.lt_of_lt_of_le hk w.2.2.2.1
    have hr := R.2.2.2.2 k hk
    simp only [F_X9_about, F_X9_about_b, md_obj, md_gi0, md_gi2, md_gi6, md_gi14, md_gi16, md_gi17, md_gi18, md_gi19, md_gi22, md_gi24, md_gi25, md_gi29, md_gi30, md_gi35, md_gi39, md_gr1, md_gr3, md_gr4, md_gr5, md_gr7, md_gr8, md_gr9, md_gr10, md_gr11, md_gr12, md_gr13, md_gr15, md_gr20, md_gr21, md_gr23, md_gr26, md_gr27, md_gr28, md_gr31, md_gr32, md_gr33, md_gr34, md_gr36, md_gr37, md_gr38, md_gr40, md_gr41, md_il1, md_il3, md_il4, md_il5, md_il7, md_il8, md_il9, md_il10, md_il11, md_il12, md_il13, md_il15, md_il20, md_il21, md_il23, md_il26, md_il27, md_il28, md_il31, md_il32, md_il33, md_il34, md_il36, md_il37, md_il38, md_il40, md_il41, Option.bind_some, noV_t w R h, if_true, placesOf_spec w R hk, tornIn_spec w R hk, ix_nI hk30 (by decide), hr.1, hr.2.2.1, hr.2.2.2.1, cl_nI (show k < 2 ^ 31 by omega)]
    repeat' split
    all_goals rfl
  · rw [if_neg h]
    simp only [F_X9_about, F_X9_about_b, md_obj, md_gi0, md_gi2, md_gi6, md_gi14, md_gi16, md_gi17, md_gi18, md_gi19, md_gi22, md_gi24, md_gi25, md_gi29, md_gi30, md_gi35, md_gi39, md_gr1, md_gr3, md_gr4, md_gr5, md_gr7, md_gr8, md_gr9, md_gr10, md_gr11, md_gr12, md_gr13, md_gr15, md_gr20, md_gr21, md_gr23, md_gr26, md_gr27, md_gr28, md_gr31, md_gr32, md_gr33, md_gr34, md_gr36, md_gr37, md_gr38, md_gr40, md_gr41, md_il1, md_il3, md_il4, md_il5, md_il7, md_il8, md_il9, md_il10, md_il11, md_il12, md_il13, md_il15, md_il20, md_il21, md_il23, md_il26, md_il27, md_il28, md_il31, md_il32, md_il33, md_il34, md_il36, md_il37, md_il38, md_il40, md_il41, Option.bind_some, noV_f w R h, if_neg i1ne0]
def sp_block (S : sS) (v i : Int32) : Int32 := if vd (nv S) v then (if vd (rl S v.toNatClampNeg) i then nI (rw_ S v.toNatClampNeg i.toNatClampNeg) else -1) else -100001
theorem m_block (w : WF S) (R : RM S I A) (v i : Int32) : F_X9_block 88 v i (md X I A Y) = some (sp_block S v i) := by
  unfold sp_block
  by_cases h : vd (nv S) v
  · rw [if_pos h]
    obtain ⟨k, hk, rfl⟩ := nI_of_toInt h.1 h.2
    have hk30 : k < 30 := Nat.lt_of_lt_of_le hk w.2.2.2.1
    have hw := (w.2.2.2.2 k hk).1
    simp only [F_X9_block, F_X9_block_b, F_X9_block_39, md_obj, md_gr7, Option.bind_some, noV_t w R h, if_true, A7 w R hk, in_spec, Int32.toInt_toInt64, nI_pre (show rl S k < 2 ^ 31 by omega), cl_nI (show k < 2 ^ 31 by omega)]
    rw [show (0 : Int64).toInt = 0 from rfl]
    by_cases h2 : vd (rl S k) i
    · rw [if_pos (show 0 ≤ i.toInt ∧ i.toInt ≤ (rl S k : Int) - 1 by unfold vd at h2; omega), if_neg i1ne0, if_pos h2]
      obtain ⟨j, hj, rfl⟩ := nI_of_toInt h2.1 h2.2
      rw [A8 w R hk hj, cl_nI (by omega)]
      rfl
    · rw [if_neg (show ¬ (0 ≤ i.toInt ∧ i.toInt ≤ (rl S k : Int) - 1) by unfold vd at h2; omega), if_pos rfl, if_neg h2]
  · rw [if_neg h]
    simp only [F_X9_block, F_X9_block_b, md_obj, md_gi0, md_gi2, md_gi6, md_gi14, md_gi16, md_gi17, md_gi18, md_gi19, md_gi22, md_gi24, md_gi25, md_gi29, md_gi30, md_gi35, md_gi39, md_gr1, md_gr3, md_gr4, md_gr5, md_gr7, md_gr8, md_gr9, md_gr10, md_gr11, md_gr12, md_gr13, md_gr15, md_gr20, md_gr21, md_gr23, md_gr26, md_gr27, md_gr28, md_gr31, md_gr32, md_gr33, md_gr34, md_gr36, md_gr37, md_gr38, md_gr40, md_gr41, md_il1, md_il3, md_il4, md_il5, md_il7, md_il8, md_il9, md_il10, md_il11, md_il12, md_il13, md_il15, md_il20, md_il21, md_il23, md_il26, md_il27, md_il28, md_il31, md_il32, md_il33, md_il34, md_il36, md_il37, md_il38, md_il40, md_il41, Option.bind_some, noV_f w R h, if_neg i1ne0]
/-! find, noPlace, open -/
theorem RM_I {I' : Nat → Int32} (R : RM S I A) (h0 : I' 0 = I 0) (h2 : I' 2 = I 2) (h6 : I' 6 = I 6) (h9 : I' 39 = I 39) : RM S I' A := ⟨⟨h0.trans R.1.1, R.1.2⟩, ⟨h9.trans R.2.1.1, R.2.1.2⟩, ⟨h2.trans R.2.2.1.1, R.2.2.1.2⟩, ⟨h6.trans R.2.2.2.1, R.2.2.2.2⟩⟩
theorem RM_f (R : RM S I A) (a b : Int32) : RM S (upd (upd I 18 a) 19 b) A := RM_I R rfl rfl rfl rfl
theorem upd2 (I : Nat → Int32) (a b c d : Int32) : upd (upd (upd (upd I 18 a) 19 b) 19 c) 18 d = upd (upd I 18 d) 19 c := by
  funext k
  unfold upd
  by_cases h1 : k = 18
  · subst h1; simp
  · by_cases h2 : k = 19
    · subst h2; simp
    · simp [h1, h2]
theorem u19_18 (I : Nat → Int32) (x : Int32) : upd I 19 x 18 = I 18 := rfl
theorem u18_18 (I : Nat → Int32) (x : Int32) : upd I 18 x 18 = x := rfl
theorem u19_19 (I : Nat → Int32) (x : Int32) : upd I 19 x 19 = x := rfl
theorem find_loop (w : WF S) (R : RM S I A) {v : Nat} (hv : v < nv S) : ∀ (n m i p : Nat), i + m = rl S v → m < n → p < sumN (fun i => ln S (rw_ S v i)) (rl S v) - sumN (fun i => ln S (rw_ S v i)) i →
    F_X9_find_10 n 88 (nI v) (md X (upd (upd I 18 (nI i)) 19 (nI p)) A Y) = some (md X (upd (upd I 18 (nI (locF S v m i p).1)) 19 (nI (locF S v m i p).2)) A Y)
  | 0, m, i, p, h1, h2, h3 => by omega
  | n + 1, 0, i, p, h1, h2, h3 => by
    rw [show i = rl S v by omega, Nat.sub_self] at h3
    omega
  | n + 1, m + 1, i, p, h1, h2, h3 => by
    have hi : i < rl S v := by omega
    have hp : p < 2 ^ 31 := by
      have h4 := plc_le w hv
      unfold plc at h4
      omega
    have hb := (w.2.2.2.2 v hv).1.2 i hi
    have hl := (w.2.2.1.2 _ hb).1
    have R2 : RM S (upd (upd I 18 (nI i)) 19 (nI p)) A := RM_f R _ _
    have e18 : (upd (upd I 18 (nI i)) 19 (nI p)) 18 = nI i := rfl
    have e19 : (upd (upd I 18 (nI i)) 19 (nI p)) 19 = nI p := rfl
    rw [F_X9_find_10]
    simp only [md_gi18, md_gi19, md_gr3, Option.bind_some, e18, e19, A8 w R2 hv hi, A3 w R2 hb]
    unfold locF
    by_cases hc : p < ln S (rw_ S v i)
    · rw [if_pos (nI_lt hc (by omega)), if_pos hc]
    · rw [if_neg (nI_nlt (by omega) hp), if_neg hc]
      have hs : sumN (fun i => ln S (rw_ S v i)) (i + 1) = sumN (fun i => ln S (rw_ S v i)) i + ln S (rw_ S v i) := rfl
      simp only [md_pi19, md_pi18, md_gi18, Option.bind_some, u19_18, u18_18, upd2, lit, nI_add, nI_subN (show ln S (rw_ S v i) ≤ p by omega)]
      exact find_loop w R hv n m (i + 1) (p - ln S (rw_ S v i)) (by omega) (by omega) (by omega)
theorem find_spec (w : WF S) (R : RM S I A) {v p : Nat} (hv : v < nv S) (hp : p < plc S v) : F_X9_find 88 (nI v) (nI p) (md X I A Y) = some (md X (upd (upd I 18 (nI (loc S v p).1)) 19 (nI (loc S v p).2)) A Y) := by
  simp only [F_X9_find, F_X9_find_b, md_obj, md_pi18, md_pi19, Option.bind_some, lit]
  have hw := (w.2.2.2.2 v hv).1
  exact find_loop w R hv am_F (rl S v) 0 p (by omega) (by show _ < 100000; omega) (show p < plc S v - 0 by omega)
theorem noPlace_spec (w : WF S) (R : RM S I A) {v : Nat} (hv : v < nv S) (p : Int32) (c : Nat) (hc : c ≤ 1) : F_X9_noPlace 88 (nI v) p (nI c) (md X I A Y) = some (if vd (plc S v + c) p then 0 else 1) := by
  have hl := plc_le w hv
  have e1 : (nI (plc S v) - 1 + nI c).toInt = (plc S v : Int) - 1 + c := by
    rw [Int32.toInt_add, nI_pre (by omega), nI_toInt (by omega)]
    exact Int.bmod_eq_of_le (by omega) (by omega)
  simp only [F_X9_noPlace, F_X9_noPlace_b, F_X9_noPlace_27, F_X9_noPlace_32, md_obj, Option.bind_some, noV_t w R (vd_nI hv (by have := w.2.2.2.1; omega)), if_true, placesOf_spec w R hv, in_spec, Int32.toInt_toInt64, e1]
  rw [show (0 : Int64).toInt = 0 from rfl]
  by_cases h : vd (plc S v + c) p
  · rw [if_pos (show 0 ≤ p.toInt ∧ p.toInt ≤ (plc S v : Int) - 1 + c by unfold vd at h; omega), if_neg i1ne0, if_pos h]
    rfl
  · rw [if_neg (show ¬ (0 ≤ p.toInt ∧ p.toInt ≤ (plc S v : Int) - 1 + c) by unfold vd at h; omega), if_pos rfl, if_neg h]
    rfl
theorem noPlace_f (w : WF S) (R : RM S I A) {v : Int32} (hv : ¬ vd (nv S) v) (p c : Int32) : F_X9_noPlace 88 v p c (md X I A Y) = some 1 := by
  simp only [F_X9_noPlace, F_X9_noPlace_b, F_X9_noPlace_27, F_X9_noPlace_32, md_obj, Option.bind_some, noV_f w R hv, if_neg i1ne0]
  rfl
def sp_open (S : sS) (v p : Int32) : Int32 := if vd (nv S) v ∧ vd (plc S v.toNatClampNeg) p then (if tn S (rw_ S v.toNatClampNeg (loc S v.toNatClampNeg p.toNatClampNeg).1) = true then -100005 else nI (sg S (rw_ S v.toNatClampNeg (loc S v.toNatClampNeg p.toNatClampNeg).1) (loc S v.toNatClampNeg p.toNatClampNeg).2)) else -100001
theorem m_open (w : WF S) (R : RM S I A) (v p : Int32) : ∃ I', F_X9_open 88 v p (md X I A Y) = some (sp_open S v p, md X I' A Y) ∧ RM S I' A := by
  unfold sp_open
  by_cases h : vd (nv S) v
  · obtain ⟨k, hk, rfl⟩ := nI_of_toInt h.1 h.2
    have hk30 : k < 30 := Nat.lt_of_lt_of_le hk w.2.2.2.1
    have hl := plc_le w hk
    rw [cl_nI (show k < 2 ^ 31 by omega)]
    have e0 : (0 : Int32) = nI 0 := rfl
    by_cases h2 : vd (plc S k) p
    · obtain ⟨q, hq, rfl⟩ := nI_of_toInt h2.1 h2.2
      rw [if_pos ⟨h, h2⟩, cl_nI (show q < 2 ^ 31 by omega)]
      obtain ⟨l1, l2, l3⟩ := loc_spec hq
      have hb := (w.2.2.2.2 k hk).1.2 _ l1
      refine ⟨upd (upd I 18 (nI (loc S k q).1)) 19 (nI (loc S k q).2), ?_, RM_f R _ _⟩
      have R2 := RM_f R (nI (loc S k q).1) (nI (loc S k q).2)
      have e18 : (upd (upd I 18 (nI (loc S k q).1)) 19 (nI (loc S k q).2)) 18 = nI (loc S k q).1 := rfl
      have e19 : (upd (upd I 18 (nI (loc S k q).1)) 19 (nI (loc S k q).2)) 19 = nI (loc S k q).2 := rfl
      have hn := noPlace_spec (X := X) (Y := Y) w R hk (nI q) 0 (by omega)
      rw [if_pos (show vd (plc S k + 0) (nI q) from h2), ← e0] at hn
      simp only [F_X9_open, F_X9_open_b, F_X9_open_52, md_obj, Option.bind_some, hn, if_true, find_spec w R hk hq, md_gi18, md_gi19, md_gr5, e18, e19, A8 w R2 hk l1, A5 w R2 hb, A4 w R2 hb l2]
      cases ht : tn S (rw_ S k (loc S k q).1) <;> rfl
    · rw [if_neg (fun q => h2 q.2)]
      refine ⟨I, ?_, R⟩
      have hn := noPlace_spec (X := X) (Y := Y) w R hk p 0 (by omega)
      rw [if_neg (show ¬ vd (plc S k + 0) p from h2), ← e0] at hn
      simp only [F_X9_open, F_X9_open_b, md_obj, Option.bind_some, hn, if_neg i1ne0]
  · rw [if_neg (fun q => h q.1)]
    refine ⟨I, ?_, R⟩
    simp only [F_X9_open, F_X9_open_b, md_obj, Option.bind_some, noPlace_f w R h, if_neg i1ne0]
end M3
