/-! SIZE and TIME -/
def hlv : Nat → Nat → Nat
  | 0, _ => 0
  | f + 1, v => if v ≤ 1 then 0 else 2 + hlv f (v / 2)
def tuP (s : Nat → Nat) (n : Nat) : Nat := 5 + sumN (fun i => 1 + hlv 5 (tP s n i + 1)) n
def Zf : sZ := fun n s k => if k = 0 then (4 * n, n) else if k = 1 then ((tb s n n 0).1, (cutP s n).1 + n) else if k = 2 then (ruP s n, 2 * n + ruL s n) else if k = 3 then (cdN s n, 6 * n) else (tuP s n, 3 * n)
theorem hlv_le : ∀ f v, hlv f v ≤ 2 * f
  | 0, _ => Nat.le_refl _
  | f + 1, v => by
    have := hlv_le f (v / 2)
    unfold hlv
    split <;> omega
theorem tuP_le (s : Nat → Nat) (n : Nat) : tuP s n ≤ 5 + n * 11 := by
  have := sumN_le (f := fun i => 1 + hlv 5 (tP s n i + 1)) (c := 11) n (fun i _ => by have := hlv_le 5 (tP s n i + 1); omega)
  unfold tuP
  omega
theorem ruL_le {s : Nat → Nat} {n : Nat} : ruL s n ≤ (gW s n).1 := cntN_le _ _
theorem ruP_le {s : Nat → Nat} {n : Nat} (hs : ∀ k, k < n → s k < 16) (hn : n ≤ 24) : ruP s n ≤ 2000 := by
  obtain ⟨ok, h11⟩ := ruC_ok hs hn
  obtain ⟨h1, h2⟩ := CI_len ok
  have h3 := ruL_le (s := s) (n := n)
  have h4 := sumN_le (f := fun j => 5 * ((ruC s n).2 j).length) (c := 120) (gW s n).1 (fun i hi => by have := h2 i hi; omega)
  unfold ruP
  omega
theorem Zf_le {s : Nat → Nat} {n : Nat} (hs : ∀ k, k < n → s k < 16) (hn : n ≤ 24) (k : Nat) : (Zf n s k).1 ≤ 2000 ∧ (Zf n s k).2 ≤ 144 := by
  have h1 := (tb_le s n n 0).1
  have h2 := cut_le (s := s) (n := n)
  have h3 := ruP_le hs hn
  have h4 := (gW_ok hs hn).2
  have h5 := ruL_le (s := s) (n := n)
  have h6 := cdN_le hs hn
  have h7 := tuP_le s n
  unfold Zf
  split
  · exact ⟨by show 4 * n ≤ 2000; omega, by show n ≤ 144; omega⟩
  · split
    · exact ⟨by show (tb s n n 0).1 ≤ 2000; omega, by show (cutP s n).1 + n ≤ 144; omega⟩
    · split
      · exact ⟨h3, by show 2 * n + ruL s n ≤ 144; omega⟩
      · split
        · exact ⟨by show cdN s n ≤ 2000; omega, by show 6 * n ≤ 144; omega⟩
        · exact ⟨by show tuP s n ≤ 2000; omega, by show 3 * n ≤ 144; omega⟩
theorem half_t {v : Nat} (hv : v < 2 ^ 31) : nI v / 2 = nI (v / 2) := nI_div (b := 2) hv (by decide)
theorem place_loop {h : am_H} : ∀ (f q c v : Nat), v < 2 ^ f → f < 20 → f < q → F_X6_placePrice_6 q (nI c) (nI v) h = some (nI (c + hlv f v))
  | 0, 0, c, v, h1, h0, h2 => by omega
  | 0, q + 1, c, v, h1, h0, h2 => by
    have : v < 1 := h1
    rw [F_X6_placePrice_6, if_pos (show nI v ≤ (1 : Int32) from nI_le (b := 1) (by omega) (by decide))]
    rfl
  | f + 1, 0, c, v, h1, h0, h2 => by omega
  | f + 1, q + 1, c, v, h1, h0, h2 => by
    have hp : 2 ^ (f + 1) ≤ 2 ^ 20 := Nat.pow_le_pow_right (by decide) (by omega)
    rw [Nat.pow_succ] at h1
    have hv : v < 2 ^ 31 := by rw [Nat.pow_succ] at hp; omega
    unfold hlv
    rw [F_X6_placePrice_6]
    by_cases c1 : v ≤ 1
    · rw [if_pos (show nI v ≤ (1 : Int32) from nI_le (b := 1) c1 (by decide)), if_pos c1]
      rfl
    · rw [if_neg (show ¬ nI v ≤ (1 : Int32) from nI_ge (a := 1) (by omega) hv), if_neg c1, half_t hv, show (2 : Int32) = nI 2 from rfl, nI_add, place_loop f q (c + 2) (v / 2) (by omega) (by omega) (by omega), Nat.add_assoc]
theorem half_loop {K : Nat → Int32 → Int32 → Int32 → am_H → Option (Int32 × am_H)} {h : am_H} {b : Int32} {k : Nat} : ∀ (f q c v : Nat), v < 2 ^ f → f < 20 → f < q → F_X9_sizeBy_158 K q 88 b (nI c) (nI k) (nI v) h = K 88 b (nI (c + hlv f v)) (nI (k + 1)) h
  | 0, 0, c, v, h1, h0, h2 => by omega
  | 0, q + 1, c, v, h1, h0, h2 => by
    have : v < 1 := h1
    rw [F_X9_sizeBy_158, if_pos (show nI v ≤ (1 : Int32) from nI_le (b := 1) (by omega) (by decide)), nI_1]
    rfl
  | f + 1, 0, c, v, h1, h0, h2 => by omega
  | f + 1, q + 1, c, v, h1, h0, h2 => by
    have hp : 2 ^ (f + 1) ≤ 2 ^ 20 := Nat.pow_le_pow_right (by decide) (by omega)
    rw [Nat.pow_succ] at h1
    have hv : v < 2 ^ 31 := by rw [Nat.pow_succ] at hp; omega
    unfold hlv
    rw [F_X9_sizeBy_158]
    by_cases c1 : v ≤ 1
    · rw [if_pos (show nI v ≤ (1 : Int32) from nI_le (b := 1) c1 (by decide)), if_pos c1, nI_1]
      rfl
    · rw [if_neg (show ¬ nI v ≤ (1 : Int32) from nI_ge (a := 1) (by omega) hv), if_neg c1, half_t hv, show (2 : Int32) = nI 2 from rfl, nI_add, half_loop f q (c + 2) (v / 2) (by omega) (by omega) (by omega), Nat.add_assoc]
theorem TA.price_loop {h : am_H} {e : Int32} {T F f f' : Nat → Int32} {n : Nat} {g : Nat → Nat} (M : TA h e T F n f n f') (hg : ∀ j, j < n → f' j = nI (g j) ∧ g j < 16) : ∀ (q k i c : Nat), i + k = n → k < q → F_X6_price_4 q 64 (nI (c + sumN (fun i => 1 + hlv 5 (g i + 1)) i)) (nI i) h = some (nI (c + sumN (fun i => 1 + hlv 5 (g i + 1)) n))
  | 0, k, i, c, h1, h2 => by omega
  | q + 1, 0, i, c, h1, h2 => by
    have hn := M.2.2.2.2.2.1
    rw [F_X6_price_4, M.gr.2.2.2.1, Option.bind_some, row_length M.2.2.2.2, Option.bind_some, if_pos (nI_le (by omega) (by omega)), show i = n by omega]
  | q + 1, k + 1, i, c, h1, h2 => by
    have hn := M.2.2.2.2.2.1
    obtain ⟨g1, g2⟩ := hg i (by omega)
    have ih := TA.price_loop M hg q k (i + 1) c (by omega) (by omega)
    rw [show sumN (fun i => 1 + hlv 5 (g i + 1)) (i + 1) = sumN (fun i => 1 + hlv 5 (g i + 1)) i + (1 + hlv 5 (g i + 1)) from rfl, ← Nat.add_assoc] at ih
    rw [F_X6_price_4, M.gr.2.2.2.1, Option.bind_some, row_length M.2.2.2.2, Option.bind_some, if_neg (nI_ge (by omega) (by omega)), Option.bind_some, row_at M.2.2.2.2 (by omega), Option.bind_some, g1]
    unfold F_X6_placePrice F_X6_placePrice_b
    rw [nI_1, show (1 : Int32) = nI 1 from rfl, place_loop 5 am_F 1 (g i + 1) (by show _ < 32; omega) (by omega) (by show _ < 100000; omega), Option.bind_some, nI_add, nI_add]
    exact ih
theorem TA.price {h : am_H} {e : Int32} {T F f f' : Nat → Int32} {n : Nat} {g : Nat → Nat} (M : TA h e T F n f n f') (hg : ∀ j, j < n → f' j = nI (g j) ∧ g j < 16) : F_X6_price 64 h = some (nI (5 + sumN (fun i => 1 + hlv 5 (g i + 1)) n)) := by
  have hn := M.2.2.2.2.2.1
  unfold F_X6_price F_X6_price_b
  rw [M.1, Option.bind_some]
  exact M.price_loop hg am_F n 0 5 (by omega) (by show _ < 100000; omega)
theorem MA.price {h : am_H} {L F N f : Nat → Int32} {m : Nat} (M : MA h L F N m f) : F_X2_price 24 h = some (L 0) := by
  unfold F_X2_price F_X2_price_b
  rw [M.1, Option.bind_some, M.gr.1, Option.bind_some, show (0 : Int32) = nI 0 from rfl, (M.il (show 0 < 25 by omega)).1, Option.bind_some]
/-! what stays -/
theorem MA.fr {P : Nat → Prop} {h h' : am_H} {L F N f : Nat → Int32} {m : Nat} (M : MA h L F N m f) (G : Fr P h h') (hp : ∀ q, inM q → ¬ P q) : MA h' L F N m f := ⟨(obj_at (G.2.2 _ (hp _ (by unfold inM; omega)))).trans M.1, (ia_at (G.2.2 _ (hp _ (by unfold inM; omega)))).trans M.2.1, (ia_at (G.2.2 _ (hp _ (by unfold inM; omega)))).trans M.2.2.1, (ia_at (G.2.2 _ (hp _ (by unfold inM; omega)))).trans M.2.2.2.1, M.2.2.2.2.fr G (hp _ (by unfold inM; omega)) (hp _ (by unfold inM; omega))⟩
theorem UA.fr {P : Nat → Prop} {h h' : am_H} {n : Nat} {fo la : Int32} {l sp : List Nat} {R : Nat → List Nat} (U : UA h n fo la l sp R) (G : Fr P h h') (hp : ∀ q, inU q → ¬ P q) : UA h' n fo la l sp R := by
  obtain ⟨o, r1, r2, ⟨g, hg, hg2⟩, hR⟩ := U
  exact ⟨(obj_at (G.2.2 _ (hp _ (by unfold inU; omega)))).trans o, r1.fr G (hp _ (by unfold inU; omega)) (hp _ (by unfold inU; omega)), r2.fr G (hp _ (by unfold inU; omega)) (hp _ (by unfold inU; omega)), ⟨g, (ra_at (G.2.2 _ (hp _ (by unfold inU; omega)))).trans hg, hg2⟩, fun k hk => (hR k hk).fr G (hp _ (by unfold inU; omega)) (hp _ (by unfold inU; omega))⟩
theorem OA.fr {P : Nat → Prop} {h h' : am_H} {O : Nat → Int32} {lo hi po m : Nat} {g : Nat → Nat} (M : OA h O lo hi po m g) (G : Fr P h h') (hp : ∀ q, inO q → ¬ P q) : OA h' O lo hi po m g := by
  obtain ⟨o, i, f, r, hf⟩ := M
  exact ⟨(obj_at (G.2.2 _ (hp _ (by unfold inO; omega)))).trans o, (ia_at (G.2.2 _ (hp _ (by unfold inO; omega)))).trans i, f, r.fr G (hp _ (by unfold inO; omega)) (hp _ (by unfold inO; omega)), hf⟩
theorem TA.fr {P : Nat → Prop} {h h' : am_H} {e : Int32} {T F f f' : Nat → Int32} {m m' : Nat} (M : TA h e T F m f m' f') (G : Fr P h h') (hp : ∀ q, inT q → ¬ P q) : TA h' e T F m f m' f' := ⟨(obj_at (G.2.2 _ (hp _ (by unfold inT; omega)))).trans M.1, (ia_at (G.2.2 _ (hp _ (by unfold inT; omega)))).trans M.2.1, (ia_at (G.2.2 _ (hp _ (by unfold inT; omega)))).trans M.2.2.1, M.2.2.2.1.fr G (hp _ (by unfold inT; omega)) (hp _ (by unfold inT; omega)), M.2.2.2.2.fr G (hp _ (by unfold inT; omega)) (hp _ (by unfold inT; omega))⟩
/-! a weight -/
def WB (h : am_H) (a m : Nat) (t : Bool) (f g : Nat → Int32) : Prop := am_obj a 0 h = some [.ref (a + 5), .ref (a + 1), .ref (a + 3), .int (bI t)] ∧ RowAt h (a + 1) 5 m f ∧ RowAt h (a + 3) 5 m g
theorem addW_t {h : am_H} {a m : Nat} {t : Bool} {f g : Nat → Int32} (W : WB h a m t f g) (hm : m < 5) (x y : Int32) : ∃ h', F_X0_addWeight a x y h = some h' ∧ WB h' a (m + 1) t (upd f m x) (upd g m y) ∧ Fr (fun q => a + 1 ≤ q ∧ q < a + 5) h h' := by
  obtain ⟨o, r1, r2⟩ := W
  obtain ⟨h1, e1, r1', G1⟩ := row_add r1 hm x
  obtain ⟨h2, e2, r2', G2⟩ := row_add (r2.fr G1 (by omega) (by omega)) hm y
  have o1 := (obj_at (c := 0) (G1.2.2 a (by omega))).trans o
  refine ⟨h2, ?_, ⟨(obj_at (G2.2.2 a (by omega))).trans o1, r1'.fr G2 (by omega) (by omega), r2'⟩, G1.tr G2 (fun q z => by omega) (fun q z => by omega)⟩
  have g1 : am_gr 0 1 a h = some (a + 1) := by unfold am_gr; rw [o]; rfl
  have g2 : am_gr 0 2 a h1 = some (a + 3) := by unfold am_gr; rw [o1]; rfl
  unfold F_X0_addWeight F_X0_addWeight_b
  rw [o, Option.bind_some, g1, Option.bind_some, e1, Option.bind_some, g2, Option.bind_some, e2, Option.bind_some]
section WG
variable {S : sS} {pb pv : Nat → Nat} {h : am_H}
abbrev inW (a q : Nat) : Prop := (24 ≤ q ∧ q < 71) ∨ (a + 1 ≤ q ∧ q < a + 5)
theorem gr8 {h : am_H} {pn : Int32} {k x : Nat} (o : am_obj 1 8 h = some (xfs S pn)) (hk : ∀ pn, (xfs S pn)[k]? = some (.ref x)) : am_gr 8 k 1 h = some x := by unfold am_gr; rw [o, Option.bind_some, hk pn]
theorem weigh_t (w : WF S) (C : RX Zf S pb pv h) {b : Nat} (hb : b < nb S) (ht : tn S b = false) : ∃ h' f g, F_X8_weigh 1 (rD (pb b)) h = some h' ∧ RX Zf S pb pv h' ∧ Fr (inW (rD (pb b))) h h' ∧ WB h' (rD (pb b)) 5 false f g ∧ ∀ k, k < 5 → f k = nI (Zf (ln S b) (sg S b) k).1 ∧ g k = nI (Zf (ln S b) (sg S b) k).2 := by
  have hl := w.2.2.1.2 b hb
  have B := C.2.2.2.2.2.1 b hb
  have B' := B
  rw [ht] at B'
  obtain ⟨b1, ⟨f0, r0, -⟩, m, f, g, ⟨r1, r2⟩, hm⟩ := B'
  have ha : 116 ≤ rD (pb b) := by unfold rD; omega
  unfold F_X8_weigh F_X8_weigh_b
  rw [C.ob, B.f.2.1, Option.bind_some, row_length r1, Option.bind_some]
  rcases hm with hm | ⟨hm, hfg⟩
  · subst hm
    rw [if_pos (show nI 0 ≤ 0 by decide), B.f.1, Option.bind_some, row_length r0, Option.bind_some, C.gr (k := 11) (x := 24) (fun _ => rfl), Option.bind_some, Option.bind_some]
    obtain ⟨h1, L1, F1, N1, q1, e1, C1, M1, G1, -, x1⟩ := mates_t w C hb ht
    obtain ⟨h2, fo2, la2, sp2, R2, e2, C2, U2, G2, x2⟩ := rules_t w C1 hb ht
    obtain ⟨h3, O3, lo3, hi3, e3, C3, O3', G3⟩ := odds_t w C2 hb ht
    obtain ⟨h4, T4, F4, p4, p4', e4, C4, T4', G4, -, x4⟩ := turns_t w C3 hb ht
    have B1 := C1.2.2.2.2.2.1 b hb
    have B2 := C2.2.2.2.2.2.1 b hb
    have B3 := C3.2.2.2.2.2.1 b hb
    have B4 := C4.2.2.2.2.2.1 b hb
    have Fs : Fr (fun q => 24 ≤ q ∧ q < 71) h h4 := (((G1.mono (T := fun q => 24 ≤ q ∧ q < 71) (fun q z => by unfold inM at z; omega)).tr (G2.mono (T := fun q => 24 ≤ q ∧ q < 71) (fun q z => by unfold inU at z; omega)) (T := fun q => 24 ≤ q ∧ q < 71) (fun _ z => z) (fun _ z => z)).tr (G3.mono (T := fun q => 24 ≤ q ∧ q < 71) (fun q z => by unfold inO at z; omega)) (T := fun q => 24 ≤ q ∧ q < 71) (fun _ z => z) (fun _ z => z)).tr (G4.mono (T := fun q => 24 ≤ q ∧ q < 71) (fun q z => by unfold inT at z; omega)) (fun _ z => z) (fun _ z => z)
    rw [e1, Option.bind_some, C1.gr (k := 12) (x := 30) (fun _ => rfl), Option.bind_some, B1.f.1, Option.bind_some, e2, Option.bind_some, C2.gr (k := 13) (x := 60) (fun _ => rfl), Option.bind_some, B2.f.1, Option.bind_some, e3, Option.bind_some, C3.gr (k := 14) (x := 64) (fun _ => rfl), Option.bind_some, B3.f.1, Option.bind_some, e4, Option.bind_some]
    have W4 : WB h4 (rD (pb b)) 0 false f g := ⟨(obj_at (Fs.2.2 _ (by omega))).trans b1, r1.fr Fs (by omega) (by omega), r2.fr Fs (by omega) (by omega)⟩
    obtain ⟨h5, e5, W5, G5⟩ := addW_t W4 (by omega) (nI (4 * ln S b)) (nI (ln S b))
    obtain ⟨pn, o4⟩ := C4.1
    have o5 := (obj_at (c := 8) (G5.2.2 1 (by omega))).trans o4
    have M4 : MA h4 L1 F1 N1 _ q1 := ((M1.fr G2 (fun q z => by unfold inM inU at *; omega)).fr G3 (fun q z => by unfold inM inO at *; omega)).fr G4 (fun q z => by unfold inM inT at *; omega)
    have U4 := (U2.fr G3 (fun q z => by unfold inU inO at *; omega)).fr G4 (fun q z => by unfold inU inT at *; omega)
    have O4 := O3'.fr G4 (fun q z => by unfold inO inT at *; omega)
    have M5 := M4.fr G5 (fun q z => by unfold inM at z; omega)
    have U5 := U4.fr G5 (fun q z => by unfold inU at z; omega)
    have O5 := O4.fr G5 (fun q z => by unfold inO at z; omega)
    have T5 := T4'.fr G5 (fun q z => by unfold inT at z; omega)
    obtain ⟨h6, e6, W6, G6⟩ := addW_t W5 (by omega) (nI (tb (sg S b) (ln S b) (ln S b) 0).1) (nI ((cutP (sg S b) (ln S b)).1 + ln S b))
    have o6 := (obj_at (c := 8) (G6.2.2 1 (by omega))).trans o5
    have U6 := U5.fr G6 (fun q z => by unfold inU at z; omega)
    have O6 := O5.fr G6 (fun q z => by unfold inO at z; omega)
    have T6 := T5.fr G6 (fun q z => by unfold inT at z; omega)
    obtain ⟨ok, h11⟩ := ruC_ok hl.2 hl.1.2
    have ePr : 5 * (ruC (sg S b) (ln S b)).1.length + cntN (fun j => decide (0 < (R2 j).length)) (gW (sg S b) (ln S b)).1 + sumN (fun j => 5 * (R2 j).length) (gW (sg S b) (ln S b)).1 = ruP (sg S b) (ln S b) := by
      unfold ruP ruL
      rw [ruL_cong x2, sumN_cong (f := fun j => 5 * (R2 j).length) (g := fun j => 5 * ((ruC (sg S b) (ln S b)).2 j).length) _ (fun i hi => by rw [x2 i hi])]
    have eLe : cntN (fun j => decide (0 < (R2 j).length)) (gW (sg S b) (ln S b)).1 = ruL (sg S b) (ln S b) := by
      unfold ruL
      rw [ruL_cong x2]
    obtain ⟨h7, e7, W7, G7⟩ := addW_t W6 (by omega) (nI (ruP (sg S b) (ln S b))) (nI (2 * ln S b + ruL (sg S b) (ln S b)))
    have o7 := (obj_at (c := 8) (G7.2.2 1 (by omega))).trans o6
    have O7 := O6.fr G7 (fun q z => by unfold inO at z; omega)
    have T7 := T6.fr G7 (fun q z => by unfold inT at z; omega)
    obtain ⟨fo, ro, -⟩ := O7.2.2
    obtain ⟨h8, e8, W8, G8⟩ := addW_t W7 (by omega) (nI (cdN (sg S b) (ln S b))) (nI (6 * ln S b))
    have o8 := (obj_at (c := 8) (G8.2.2 1 (by omega))).trans o7
    have T8 := T7.fr G8 (fun q z => by unfold inT at z; omega)
    obtain ⟨h9, e9, W9, G9⟩ := addW_t W8 (by omega) (nI (tuP (sg S b) (ln S b))) (nI (3 * ln S b))
    have Fb : Fr (fun q => rD (pb b) + 1 ≤ q ∧ q < rD (pb b) + 5) h4 h9 := (((G5.tr G6 (T := fun q => rD (pb b) + 1 ≤ q ∧ q < rD (pb b) + 5) (fun _ z => z) (fun _ z => z)).tr G7 (T := fun q => rD (pb b) + 1 ≤ q ∧ q < rD (pb b) + 5) (fun _ z => z) (fun _ z => z)).tr G8 (T := fun q => rD (pb b) + 1 ≤ q ∧ q < rD (pb b) + 5) (fun _ z => z) (fun _ z => z)).tr G9 (fun _ z => z) (fun _ z => z)
    have vals : ∀ k, k < 5 → upd (upd (upd (upd (upd f 0 (nI (4 * ln S b))) 1 (nI (tb (sg S b) (ln S b) (ln S b) 0).1)) 2 (nI (ruP (sg S b) (ln S b)))) 3 (nI (cdN (sg S b) (ln S b)))) 4 (nI (tuP (sg S b) (ln S b))) k = nI (Zf (ln S b) (sg S b) k).1 ∧ upd (upd (upd (upd (upd g 0 (nI (ln S b))) 1 (nI ((cutP (sg S b) (ln S b)).1 + ln S b))) 2 (nI (2 * ln S b + ruL (sg S b) (ln S b)))) 3 (nI (6 * ln S b))) 4 (nI (3 * ln S b)) k = nI (Zf (ln S b) (sg S b) k).2 := fun k hk => by
      match k, hk with
      | 0, _ => exact ⟨rfl, rfl⟩
      | 1, _ => exact ⟨rfl, rfl⟩
      | 2, _ => exact ⟨rfl, rfl⟩
      | 3, _ => exact ⟨rfl, rfl⟩
      | 4, _ => exact ⟨rfl, rfl⟩
    obtain ⟨fb, rb, hfb⟩ := BlkAt.sg w C4 hb ht
    have Cn : RX Zf (S_t S (tn S)) pb pv h9 := C4.tears Fb (fun q z => ⟨b, hb, by omega, by omega⟩) (fun c hc => by
      by_cases z : c = b
      · rw [z, ht]
        exact ⟨W9.1, ⟨fb, rb.fr Fb (by omega) (by omega), fun _ => hfb⟩, 5, _, _, ⟨W9.2.1, W9.2.2⟩, Or.inr ⟨rfl, vals⟩⟩
      · exact C4.blk Fb (fun q z => by omega) hb hc z)
    refine ⟨h9, _, _, ?_, Cn, Fs.tr Fb (fun q z => Or.inl z) (fun q z => Or.inr z), W9, vals⟩
    rw [show (4 : Int32) = nI 4 from rfl, nI_mulN, e5, Option.bind_some, gr8 (k := 11) (x := 24) o5 (fun _ => rfl), Option.bind_some, M5.price, Option.bind_some, x1, Option.bind_some, M5.gr.2.2.2, Option.bind_some, row_length M5.2.2.2.2, Option.bind_some, nI_add, e6, Option.bind_some, gr8 (k := 12) (x := 30) o6 (fun _ => rfl), Option.bind_some, U6.price (by omega), Option.bind_some, ePr, Option.bind_some, U6.left (by omega), Option.bind_some, eLe, show (2 : Int32) = nI 2 from rfl, nI_mulN, nI_add, e7, Option.bind_some, gr8 (k := 13) (x := 60) o7 (fun _ => rfl), Option.bind_some, O7.gr.2.1, Option.bind_some, row_length ro, Option.bind_some, show (6 : Int32) = nI 6 from rfl, nI_mulN, e8, Option.bind_some, gr8 (k := 14) (x := 64) o8 (fun _ => rfl), Option.bind_some, T8.price (g := tP (sg S b) (ln S b)) (fun j hj => ⟨x4 j hj, tP_lt hl.2 hj⟩), Option.bind_some, show (3 : Int32) = nI 3 from rfl, nI_mulN]
    exact (congrArg (fun o : Option am_H => o.bind fun h36 => some h36) e9).trans rfl
  · subst hm
    rw [if_neg (show ¬ nI 5 ≤ 0 by decide)]
    exact ⟨h, f, g, rfl, C, Fr.rf, ⟨b1, r1, r2⟩, hfg⟩
end WG
