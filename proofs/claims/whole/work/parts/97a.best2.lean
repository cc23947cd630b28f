/-! THE BEST: the class's side -/
theorem sub_toInt {a b : Nat} (ha : a < 2 ^ 30) (hb : b < 2 ^ 30) : (nI a - nI b).toInt = (a : Int) - b := by
  rw [Int32.toInt_sub, nI_toInt (by omega), nI_toInt (by omega)]
  exact Int.bmod_eq_of_le (by omega) (by omega)
theorem sub_neg {a b : Nat} (ha : a < 2 ^ 30) (hb : b < 2 ^ 30) : nI a - nI b < 0 ↔ a < b := by
  rw [Int32.lt_iff_toInt_lt, sub_toInt ha hb, Int32.toInt_zero]
  omega
def CA (h : am_H) (aS aT : Int32) (m : Nat) (f g : Nat → Int32) (T : Nat → Nat → Int32) (p : Nat) (kf : Nat → Int32) : Prop := am_obj 71 1 h = some [.ref 72, .ref 74, .ref 76, .ref 86, .int aS, .int aT] ∧ RowAt h 72 40 m f ∧ RowAt h 74 40 m g ∧ Rws h 76 9 1153 T ∧ RowAt h 86 8 p kf
abbrev inC (q : Nat) : Prop := 71 ≤ q ∧ q < 88
theorem inC_d (q : Nat) (h : 116 ≤ q) : ¬ inC q := by unfold inC; omega
section CX
variable {h : am_H} {aS aT : Int32} {m p : Nat} {f g kf : Nat → Int32} {T : Nat → Nat → Int32}
theorem CA.gr (M : CA h aS aT m f g T p kf) : am_gr 1 0 71 h = some 72 ∧ am_gr 1 1 71 h = some 74 ∧ am_gr 1 2 71 h = some 76 ∧ am_gr 1 3 71 h = some 86 ∧ am_gi 1 4 71 h = some aS ∧ am_gi 1 5 71 h = some aT := by
  unfold am_gr am_gi
  rw [M.1]
  exact ⟨rfl, rfl, rfl, rfl, rfl, rfl⟩
theorem CA.p4 (M : CA h aS aT m f g T p kf) (x : Int32) : ∃ h', am_pi 1 4 71 x h = some h' ∧ CA h' x aT m f g T p kf ∧ Fr inC h h' := by
  obtain ⟨h', e, o, G⟩ := ob_set (k := 4) M.1 (show 4 < 6 by decide) x
  exact ⟨h', e, ⟨o, M.2.1.fr G (by omega) (by omega), M.2.2.1.fr G (by omega) (by omega), M.2.2.2.1.fr G (fun q h1 h2 => by omega), M.2.2.2.2.fr G (by omega) (by omega)⟩, G.mono (fun q z => by unfold inC; omega)⟩
theorem CA.p5 (M : CA h aS aT m f g T p kf) (x : Int32) : ∃ h', am_pi 1 5 71 x h = some h' ∧ CA h' aS x m f g T p kf ∧ Fr inC h h' := by
  obtain ⟨h', e, o, G⟩ := ob_set (k := 5) M.1 (show 5 < 6 by decide) x
  exact ⟨h', e, ⟨o, M.2.1.fr G (by omega) (by omega), M.2.2.1.fr G (by omega) (by omega), M.2.2.2.1.fr G (fun q h1 h2 => by omega), M.2.2.2.2.fr G (by omega) (by omega)⟩, G.mono (fun q z => by unfold inC; omega)⟩
theorem CA.setT (M : CA h aS aT m f g T p kf) {i j : Nat} (hi : i < 9) (hj : j < 1153) (x : Int32) : ∃ h', am_is 0 (76 + 1 + i) (nI j) x h = some h' ∧ CA h' aS aT m f g (upA T i j x) p kf ∧ Fr inC h h' := by
  obtain ⟨h', e, r, G⟩ := M.2.2.2.1.set hi hj (by decide) x
  exact ⟨h', e, ⟨(obj_at (G.2.2 _ (by omega))).trans M.1, M.2.1.fr G (by omega) (by omega), M.2.2.1.fr G (by omega) (by omega), r, M.2.2.2.2.fr G (by omega) (by omega)⟩, G.mono (fun q z => by unfold inC; omega)⟩
theorem CA.addK (M : CA h aS aT m f g T p kf) (hp : p < 8) (x : Int32) : ∃ h', F_X4_add 86 x h = some h' ∧ CA h' aS aT m f g T (p + 1) (upd kf p x) ∧ Fr inC h h' := by
  obtain ⟨h', e, r, G⟩ := row_add M.2.2.2.2 hp x
  exact ⟨h', e, ⟨(obj_at (G.2.2 _ (by omega))).trans M.1, M.2.1.fr G (by omega) (by omega), M.2.2.1.fr G (by omega) (by omega), M.2.2.2.1.fr G (fun q h1 h2 => by omega), r⟩, G.mono (fun q z => by unfold inC; omega)⟩
theorem CA.empK (M : CA h aS aT m f g T p kf) : ∃ h', F_X4_empty 86 h = some h' ∧ CA h' aS aT m f g T 0 kf ∧ Fr inC h h' := by
  obtain ⟨h', e, r, G⟩ := row_empty M.2.2.2.2
  exact ⟨h', e, ⟨(obj_at (G.2.2 _ (by omega))).trans M.1, M.2.1.fr G (by omega) (by omega), M.2.2.1.fr G (by omega) (by omega), M.2.2.2.1.fr G (fun q h1 h2 => by omega), r⟩, G.mono (fun q z => by unfold inC; omega)⟩
end CX
section CX2
variable {n : Nat} {sz tm : Nat → Nat → Nat} {f g : Nat → Int32}
/-- the rows hold sizes and times of n blocks -/
def Hz (n : Nat) (sz tm : Nat → Nat → Nat) (f g : Nat → Int32) : Prop := n ≤ 8 ∧ ∀ i, i < n → ∀ k, k < 5 → (f (i * 5 + k) = nI (sz i k) ∧ g (i * 5 + k) = nI (tm i k)) ∧ sz i k ≤ 2000 ∧ tm i k ≤ 144
theorem sizeWith_t {h : am_H} {aS aT : Int32} {p i k t w : Nat} {kf : Nat → Int32} {T : Nat → Nat → Int32} (H : Hz n sz tm f g) (M : CA h aS aT (n * 5) f g T p kf) (hi : i < n) (hk : k < 5) (ht : t ≤ w) (hw : w ≤ 1152) (hT : ∀ u, u ≤ w → T (i + 1) u = nI (bs n sz tm (i + 1) u)) : F_X1_sizeWith 71 (nI i) (nI k) (nI t) h = some (nI (sw n sz tm i k t)) := by
  have hn := H.1
  obtain ⟨⟨h1, h2⟩, h3, h4⟩ := H.2 i hi k hk
  have hb := bs_le (n := n) (sz := sz) (tm := tm) (i + 1) (t - tm i k) (by omega)
  obtain ⟨gg, hgg, hgg2⟩ := M.2.2.2.1
  unfold F_X1_sizeWith F_X1_sizeWith_b F_X1_sizeWith_40 sw swF
  rw [M.1, Option.bind_some, M.gr.2.1, Option.bind_some, show (5 : Int32) = nI 5 from rfl, nI_mulN, nI_add, row_at M.2.2.1 (show i * 5 + k < n * 5 by omega), Option.bind_some, h2, M.gr.2.2.1, Option.bind_some, ln_ra hgg (by decide), Option.bind_some, nI_1, if_neg (nI_ge (by omega) (by omega))]
  by_cases c : t < tm i k
  · rw [if_pos ((sub_neg (by omega) (by omega)).mpr c), if_pos c]
    rfl
  · rw [if_neg (fun z => c ((sub_neg (by omega) (by omega)).mp z)), if_neg c, nI_subN (by omega), if_pos (show nI (t - tm i k) ≤ (1152 : Int32) from nI_le (b := 1152) (by omega) (by decide)), M.gr.1, Option.bind_some, row_at M.2.1 (show i * 5 + k < n * 5 by omega), Option.bind_some, h1, Option.bind_some, M.2.2.2.1.al (show i + 1 < 9 by omega) (by decide), Option.bind_some, M.2.2.2.1.il (show i + 1 < 9 by omega) (show t - tm i k < 1153 by omega) (by decide), Option.bind_some, hT _ (by omega), nI_add]
theorem sw_le (H : Hz n sz tm f g) {i k t : Nat} (hi : i < n) (hk : k < 5) : sw n sz tm i k t ≤ 1002000 := by
  obtain ⟨-, h3, h4⟩ := H.2 i hi k hk
  have hb := bs_le (n := n) (sz := sz) (tm := tm) (i + 1) (t - tm i k) (by omega)
  unfold sw swF
  split <;> omega
theorem leastFrom_loop {h : am_H} {aS aT : Int32} {p i t w : Nat} {kf : Nat → Int32} {T : Nat → Nat → Int32} (H : Hz n sz tm f g) (M : CA h aS aT (n * 5) f g T p kf) (hi : i < n) (ht : t ≤ w) (hw : w ≤ 1152) (hT : ∀ u, u ≤ w → T (i + 1) u = nI (bs n sz tm (i + 1) u)) : ∀ (q k j : Nat), j + k = 5 → k < q → F_X1_leastFrom_6 q 71 (nI i) (nI t) (nI (bsK sz tm (bs n sz tm (i + 1)) i t j)) (nI j) h = some (nI (bs n sz tm i t))
  | 0, k, j, h1, h2 => by omega
  | q + 1, 0, j, h1, h2 => by
    rw [F_X1_leastFrom_6, if_pos (show (5 : Int32) ≤ nI j from nI_le (a := 5) (by omega) (by omega)), bs_step hi, show j = 5 by omega]
  | q + 1, k + 1, j, h1, h2 => by
    have ih := leastFrom_loop H M hi ht hw hT q k (j + 1) (by omega) (by omega)
    have hb := (bsK_le (sz := sz) (tm := tm) (bs n sz tm (i + 1)) i t j).1
    have hs := sw_le (t := t) H hi (show j < 5 by omega)
    rw [F_X1_leastFrom_6, if_neg (show ¬ (5 : Int32) ≤ nI j from nI_ge (b := 5) (by omega) (by decide)), sizeWith_t H M hi (by omega) ht hw hT, Option.bind_some, jmin (by omega) (by omega), Option.bind_some, nI_1]
    exact ih
theorem leastFrom_t {h : am_H} {aS aT : Int32} {p i t w : Nat} {kf : Nat → Int32} {T : Nat → Nat → Int32} (H : Hz n sz tm f g) (M : CA h aS aT (n * 5) f g T p kf) (hi : i < n) (ht : t ≤ w) (hw : w ≤ 1152) (hT : ∀ u, u ≤ w → T (i + 1) u = nI (bs n sz tm (i + 1) u)) : F_X1_leastFrom 71 (nI i) (nI t) h = some (nI (bs n sz tm i t)) := by
  unfold F_X1_leastFrom F_X1_leastFrom_b
  rw [M.1, Option.bind_some]
  exact leastFrom_loop H M hi ht hw hT am_F 5 0 (by omega) (by show _ < 100000; omega)
theorem ch_73 {K : Nat → Int32 → Int32 → Int32 → am_H → Option (Int32 × am_H)} {aS aT : Int32} {p i w : Nat} {kf : Nat → Int32} {N : Int32} (H : Hz n sz tm f g) (hi : i < n) (hw : w ≤ 1152) : ∀ (q k t : Nat) (h : am_H) (T : Nat → Nat → Int32), CA h aS aT (n * 5) f g T p kf → (∀ u, u ≤ w → T (i + 1) u = nI (bs n sz tm (i + 1) u)) → t + k = w + 1 → k < q → (∀ u, u < t → T i u = nI (bs n sz tm i u)) →
    ∃ h' T', F_X1_choose_73 K q 71 N (nI w) (nI i) (nI t) h = K 71 N (nI w) (nI i - 1) h' ∧ CA h' aS aT (n * 5) f g T' p kf ∧ Fr inC h h' ∧ (∀ u, u ≤ w → T' i u = nI (bs n sz tm i u)) ∧ ∀ j, j ≠ i → T' j = T j
  | 0, k, t, h, T, M, hT, h1, h2, h3 => by omega
  | q + 1, 0, t, h, T, M, hT, h1, h2, h3 => by
    rw [F_X1_choose_73, if_pos (nI_lt (by omega) (by omega)), dn_nI]
    exact ⟨h, T, rfl, M, Fr.rf, fun u hu => h3 u (by omega), fun _ _ => rfl⟩
  | q + 1, k + 1, t, h, T, M, hT, h1, h2, h3 => by
    have hn := H.1
    obtain ⟨h', e, M', G⟩ := M.setT (show i < 9 by omega) (show t < 1153 by omega) (nI (bs n sz tm i t))
    rw [F_X1_choose_73, if_neg (nI_nlt (by omega) (by omega)), M.gr.2.2.1, Option.bind_some, M.2.2.2.1.al (show i < 9 by omega) (by decide), Option.bind_some, leastFrom_t H M hi (show t ≤ w by omega) hw hT, Option.bind_some, e, Option.bind_some, nI_1]
    obtain ⟨h2', T2, e2, M2, G2, g1, g2⟩ := ch_73 (K := K) H hi hw q k (t + 1) h' _ M' (fun u hu => by rw [upA_ne (by omega)]; exact hT u hu) (by omega) (by omega) (fun u hu => by
      rw [upA_self]
      by_cases z : u = t
      · rw [z, upd_self]
      · rw [upd_ne z]; exact h3 u (by omega))
    exact ⟨h2', T2, e2, M2, G.tr G2 (fun _ z => z) (fun _ z => z), g1, fun j hj => (g2 j hj).trans (upA_ne hj)⟩
theorem ch_65 {aS aT : Int32} {p w : Nat} {kf : Nat → Int32} (H : Hz n sz tm f g) (hw : w ≤ 1152) : ∀ (q i : Nat) (h : am_H) (T : Nat → Nat → Int32), CA h aS aT (n * 5) f g T p kf → i ≤ n → i < q → (∀ j, i ≤ j → j ≤ n → ∀ u, u ≤ w → T j u = nI (bs n sz tm j u)) →
    ∃ h' T', F_X1_choose_65 q 71 (nI n) (nI w) (nI i - 1) h = F_X1_choose_65 1 71 (nI n) (nI w) (nI 0 - 1) h' ∧ CA h' aS aT (n * 5) f g T' p kf ∧ Fr inC h h' ∧ (∀ j, j ≤ n → ∀ u, u ≤ w → T' j u = nI (bs n sz tm j u))
  | 0, i, h, T, M, h1, h2, h3 => by omega
  | q + 1, 0, h, T, M, h1, h2, h3 => by
    refine ⟨h, T, ?_, M, Fr.rf, fun j hj => h3 j (by omega) hj⟩
    rw [F_X1_choose_65, if_pos m1_lt, F_X1_choose_65, if_pos m1_lt]
  | q + 1, i + 1, h, T, M, h1, h2, h3 => by
    have hn := H.1
    rw [F_X1_choose_65, pre_nI, if_neg (nI_pos (by omega))]
    obtain ⟨h', T', e, M', G, g1, g2⟩ := ch_73 (K := F_X1_choose_65 q) (N := nI n) H (show i < n by omega) hw am_F (w + 1) 0 h T M (h3 (i + 1) (by omega) (by omega)) (by omega) (by show _ < 100000; omega) (fun u hu => by omega)
    obtain ⟨h2', T2, e2, M2, G2, g3⟩ := ch_65 H hw q i h' T' M' (by omega) (by omega) (fun j j1 j2 u hu => by
      by_cases z : j = i
      · rw [z]; exact g1 u hu
      · rw [g2 j z]; exact h3 j (by omega) j2 u hu)
    exact ⟨h2', T2, e.trans e2, M2, G.tr G2 (fun _ z => z) (fun _ z => z), g3⟩
theorem ch_38 {aS aT : Int32} {p w : Nat} {kf : Nat → Int32} (H : Hz n sz tm f g) (hw : w ≤ 1152) : ∀ (q k t : Nat) (h : am_H) (T : Nat → Nat → Int32), CA h aS aT (n * 5) f g T p kf → t + k = w + 1 → k < q → (∀ u, u < t → T n u = nI 0) →
    ∃ h' T', F_X1_choose_38 q 71 (nI n) (nI w) (nI t) h = F_X1_choose_65 am_F 71 (nI n) (nI w) (nI n - 1) h' ∧ CA h' aS aT (n * 5) f g T' p kf ∧ Fr inC h h' ∧ (∀ u, u ≤ w → T' n u = nI 0)
  | 0, k, t, h, T, M, h1, h2, h3 => by omega
  | q + 1, 0, t, h, T, M, h1, h2, h3 => by
    rw [F_X1_choose_38, if_pos (nI_lt (by omega) (by omega))]
    exact ⟨h, T, rfl, M, Fr.rf, fun u hu => h3 u (by omega)⟩
  | q + 1, k + 1, t, h, T, M, h1, h2, h3 => by
    have hn := H.1
    obtain ⟨h', e, M', G⟩ := M.setT (show n < 9 by omega) (show t < 1153 by omega) (nI 0)
    rw [F_X1_choose_38, if_neg (nI_nlt (by omega) (by omega)), M.gr.2.2.1, Option.bind_some, M.2.2.2.1.al (show n < 9 by omega) (by decide), Option.bind_some, show (0 : Int32) = nI 0 from rfl, e, Option.bind_some, nI_1]
    obtain ⟨h2', T2, e2, M2, G2, g1⟩ := ch_38 H hw q k (t + 1) h' _ M' (by omega) (by omega) (fun u hu => by
      rw [upA_self]
      by_cases z : u = t
      · rw [z, upd_self]
      · rw [upd_ne z]; exact h3 u (by omega))
    exact ⟨h2', T2, e2, M2, G.tr G2 (fun _ z => z) (fun _ z => z), g1⟩
/-! the time of the smallest -/
theorem small_18 {K : Nat → Int32 → Int32 → Int32 → am_H → Option Int32} {h : am_H} {aS aT : Int32} {p i c : Nat} {kf : Nat → Int32} {T : Nat → Nat → Int32} {N : Int32} (H : Hz n sz tm f g) (M : CA h aS aT (n * 5) f g T p kf) (hi : i < n) : ∀ (q k j : Nat), j + k = 5 → k < q → F_X1_timeOfSmallest_18 K q 71 N (nI c) (nI i) (nI (i * 5 + smF sz i j)) (nI (i * 5 + j)) h = K 71 N (nI (c + tm i (sm sz i))) (nI (i + 1)) h
  | 0, k, j, h1, h2 => by omega
  | q + 1, 0, j, h1, h2 => by
    have hn := H.1
    have hs := (smF_spec (sz := sz) i 5).1
    have e5 : j = 5 := by omega
    subst e5
    rw [F_X1_timeOfSmallest_18, nI_1, show (5 : Int32) = nI 5 from rfl, nI_mulN, if_pos (nI_le (by omega) (by omega)), M.gr.2.1, Option.bind_some, row_at M.2.2.1 (show i * 5 + smF sz i 5 < n * 5 by omega), Option.bind_some, (H.2 i hi _ (by omega)).1.2, nI_add]
  | q + 1, k + 1, j, h1, h2 => by
    have hn := H.1
    have hs := (smF_spec (sz := sz) i j).1
    have ih := small_18 (K := K) (c := c) (N := N) H M hi q k (j + 1) (by omega) (by omega)
    obtain ⟨⟨a1, -⟩, a3, -⟩ := H.2 i hi j (by omega)
    obtain ⟨⟨b1, -⟩, b3, -⟩ := H.2 i hi (smF sz i j) (by omega)
    have e : smF sz i (j + 1) = if sz i j < sz i (smF sz i j) then j else smF sz i j := rfl
    rw [F_X1_timeOfSmallest_18, nI_1, show (5 : Int32) = nI 5 from rfl, nI_mulN, if_neg (nI_ge (by omega) (by omega)), M.gr.1, Option.bind_some, row_at M.2.1 (show i * 5 + j < n * 5 by omega), Option.bind_some, a1, Option.bind_some, row_at M.2.1 (show i * 5 + smF sz i j < n * 5 by omega), Option.bind_some, b1]
    unfold F_X1_timeOfSmallest_53
    rw [nI_1, show i * 5 + j + 1 = i * 5 + (j + 1) by omega]
    by_cases c1 : sz i j < sz i (smF sz i j)
    · rw [if_pos c1] at e
      rw [e] at ih
      rw [if_neg (nI_ge c1 (by omega))]
      exact ih
    · rw [if_neg c1] at e
      rw [e] at ih
      rw [if_pos (nI_le (by omega) (by omega))]
      exact ih
theorem small_4 {h : am_H} {aS aT : Int32} {p : Nat} {kf : Nat → Int32} {T : Nat → Nat → Int32} (H : Hz n sz tm f g) (M : CA h aS aT (n * 5) f g T p kf) : ∀ (q k i : Nat), i + k = n → k < q → F_X1_timeOfSmallest_4 q 71 (nI n) (nI (tS sz tm i)) (nI i) h = some (nI (tS sz tm n))
  | 0, k, i, h1, h2 => by omega
  | q + 1, 0, i, h1, h2 => by
    have hn := H.1
    rw [F_X1_timeOfSmallest_4, if_pos (nI_le (by omega) (by omega)), show i = n by omega]
  | q + 1, k + 1, i, h1, h2 => by
    have hn := H.1
    have ih := small_4 H M q k (i + 1) (by omega) (by omega)
    rw [F_X1_timeOfSmallest_4, if_neg (nI_ge (by omega) (by omega)), show (5 : Int32) = nI 5 from rfl, nI_mulN]
    exact (small_18 (K := F_X1_timeOfSmallest_4 q) H M (show i < n by omega) am_F 5 0 (by omega) (by show _ < 100000; omega)).trans ih
/-! the choice is told -/
theorem tell_46 {K : Nat → Int32 → Int32 → Int32 → am_H → Option am_H} {h : am_H} {aS : Int32} {i t w c : Nat} {kf : Nat → Int32} {T : Nat → Nat → Int32} {N W : Int32} (H : Hz n sz tm f g) (M : CA h aS (nI c) (n * 5) f g T i kf) (hi : i < n) (ht : t ≤ w) (hw : w ≤ 1152) (hT : ∀ j, j ≤ n → ∀ u, u ≤ w → T j u = nI (bs n sz tm j u)) : ∀ (q f0 k : Nat), k + f0 = 4 → f0 < q → kdF n sz tm i t f0 k = kd n sz tm i t →
    ∃ h', F_X1_tell_46 K q 71 N W (nI i) (nI t) (nI k) h = K 71 N W (nI (i + 1)) h' ∧ CA h' aS (nI (c + tm i (kd n sz tm i t))) (n * 5) f g T (i + 1) (upd kf i (nI (kd n sz tm i t))) ∧ Fr inC h h'
  | 0, f0, k, h1, h2, h3 => by omega
  | q + 1, f0, k, h1, h2, h3 => by
    have hn := H.1
    have fin : k = kd n sz tm i t → ∃ h', F_X1_tell_79 K 71 N W (nI i) (nI k) h = K 71 N W (nI (i + 1)) h' ∧ CA h' aS (nI (c + tm i (kd n sz tm i t))) (n * 5) f g T (i + 1) (upd kf i (nI (kd n sz tm i t))) ∧ Fr inC h h' := fun ek => by
      rw [← ek]
      obtain ⟨ha, ea, Ma, Ga⟩ := M.addK (show i < 8 by omega) (nI k)
      obtain ⟨hb, eb, Mb, Gb⟩ := Ma.p5 (nI (c + tm i k))
      refine ⟨hb, ?_, Mb, Ga.tr Gb (fun _ z => z) (fun _ z => z)⟩
      unfold F_X1_tell_79
      rw [M.gr.2.2.2.1, Option.bind_some, ea, Option.bind_some, Ma.gr.2.2.2.2.2, Option.bind_some, Ma.gr.2.1, Option.bind_some, show (5 : Int32) = nI 5 from rfl, nI_mulN, nI_add, row_at Ma.2.2.1 (show i * 5 + k < n * 5 by omega), Option.bind_some, (H.2 i hi k (by omega)).1.2, nI_add, eb, Option.bind_some, nI_1]
    have hs := sw_le (t := t) H hi (show k < 5 by omega)
    have hb := bs_le (n := n) (sz := sz) (tm := tm) i t (by omega)
    rw [F_X1_tell_46]
    cases f0 with
    | zero =>
      rw [if_pos (show (4 : Int32) ≤ nI k from nI_le (a := 4) (by omega) (by omega))]
      exact fin h3
    | succ f0 =>
      rw [if_neg (show ¬ (4 : Int32) ≤ nI k from nI_ge (b := 4) (by omega) (by decide)), sizeWith_t H M hi (by omega) ht hw (hT (i + 1) (by omega)), Option.bind_some, M.gr.2.2.1, Option.bind_some, M.2.2.2.1.al (show i < 9 by omega) (by decide), Option.bind_some, M.2.2.2.1.il (show i < 9 by omega) (show t < 1153 by omega) (by decide), Option.bind_some, hT i (by omega) t ht]
      have e : kdF n sz tm i t (f0 + 1) k = if sw n sz tm i k t = bs n sz tm i t then k else kdF n sz tm i t f0 (k + 1) := rfl
      by_cases c1 : sw n sz tm i k t = bs n sz tm i t
      · rw [if_pos c1] at e
        rw [if_pos (by rw [c1])]
        exact fin (by rw [← h3, e])
      · rw [if_neg c1] at e
        rw [if_neg (fun z => c1 ((nI_eq (by omega) (by omega)).mp z)), nI_1]
        exact tell_46 H M hi ht hw hT q f0 (k + 1) (by omega) (by omega) (by rw [← e]; exact h3)
theorem tell_26 {aS : Int32} {w : Nat} {T : Nat → Nat → Int32} (H : Hz n sz tm f g) (hw : w ≤ 1152) (hT : ∀ j, j ≤ n → ∀ u, u ≤ w → T j u = nI (bs n sz tm j u)) (hok : bs n sz tm 0 w < 1000000) : ∀ (q k i : Nat) (h : am_H) (kf : Nat → Int32), CA h aS (nI (tmS n sz tm w i)) (n * 5) f g T i kf → i + k = n → k < q → (∀ j, j < i → kf j = nI (kd n sz tm j (lf n sz tm w j))) →
    ∃ h' kf', F_X1_tell_26 q 71 (nI n) (nI w) (nI i) h = some h' ∧ CA h' aS (nI (tmS n sz tm w n)) (n * 5) f g T n kf' ∧ Fr inC h h' ∧ (∀ j, j < n → kf' j = nI (kd n sz tm j (lf n sz tm w j)))
  | 0, k, i, h, kf, M, h1, h2, h3 => by omega
  | q + 1, 0, i, h, kf, M, h1, h2, h3 => by
    have hn := H.1
    have ei : i = n := by omega
    subst ei
    rw [F_X1_tell_26, if_pos (nI_le (Nat.le_refl _) (by omega))]
    exact ⟨h, kf, rfl, M, Fr.rf, h3⟩
  | q + 1, k + 1, i, h, kf, M, h1, h2, h3 => by
    have hn := H.1
    obtain ⟨o1, o2⟩ := lf_ok hok i (by omega)
    obtain ⟨h', e, M', G⟩ := tell_46 (K := F_X1_tell_26 q) (N := nI n) (W := nI w) H M (show i < n by omega) (show lf n sz tm w i ≤ w by omega) hw hT am_F 4 0 (by omega) (by show _ < 100000; omega) rfl
    rw [F_X1_tell_26, if_neg (nI_ge (by omega) (by omega)), M.gr.2.2.2.2.2, Option.bind_some, nI_subN (by omega), show w - tmS n sz tm w i = lf n sz tm w i by omega, show (0 : Int32) = nI 0 from rfl, jmax (by omega) (by omega), Option.bind_some, show (if 0 < lf n sz tm w i then lf n sz tm w i else 0) = lf n sz tm w i by split <;> omega]
    obtain ⟨h2', kf2, e2, M2, G2, g2⟩ := tell_26 H hw hT hok q k (i + 1) h' _ M' (by omega) (by omega) (fun j hj => by
      by_cases z : j = i
      · rw [z, upd_self]
      · rw [upd_ne z]; exact h3 j (by omega))
    exact ⟨h2', kf2, e.trans e2, M2, G.tr G2 (fun _ z => z) (fun _ z => z), g2⟩
theorem sm_lt (i : Nat) : sm sz i < 5 := by
  have h9 : smF sz i 5 ≤ 5 - 1 := (smF_spec (sz := sz) i 5).1
  show smF sz i 5 < 5
  omega
/-- the time that the class looks at -/
def wT (n : Nat) (sz tm : Nat → Nat → Nat) (t : Nat) : Nat := if (if 1152 < tS sz tm n then 1152 else tS sz tm n) < t then (if 1152 < tS sz tm n then 1152 else tS sz tm n) else t
theorem choose_t {h : am_H} {aS aT : Int32} {p t : Nat} {kf : Nat → Int32} {T : Nat → Nat → Int32} (H : Hz n sz tm f g) (M : CA h aS aT (n * 5) f g T p kf) (ht : t ≤ 9999) : ∃ h' aS' aT' T' p' kf', F_X1_choose 71 (nI t) h = some (bI (decide (bs n sz tm 0 (wT n sz tm t) < 1000000)), h') ∧ CA h' aS' aT' (n * 5) f g T' p' kf' ∧ Fr inC h h' ∧ (bs n sz tm 0 (wT n sz tm t) < 1000000 → aS' = nI (bs n sz tm 0 (wT n sz tm t)) ∧ aT' = nI (tmS n sz tm (wT n sz tm t) n) ∧ p' = n ∧ ∀ j, j < n → kf' j = nI (kd n sz tm j (lf n sz tm (wT n sz tm t) j))) := by
  have hn := H.1
  have htS : tS sz tm n ≤ n * 144 := sumN_le n (fun i hi => (H.2 i hi (sm sz i) (sm_lt i)).2.2)
  have hw : wT n sz tm t ≤ 1152 := by unfold wT; split <;> split <;> omega
  generalize hwe : wT n sz tm t = w at hw ⊢
  obtain ⟨h1, T1, e1, M1, G1, g1⟩ := ch_38 H hw am_F (w + 1) 0 h T M (by omega) (by show _ < 100000; omega) (fun u hu => by omega)
  obtain ⟨h2, T2, e2, M2, G2, g2⟩ := ch_65 H hw am_F n h1 T1 M1 (Nat.le_refl _) (by show _ < 100000; omega) (fun j j1 j2 u hu => by rw [show j = n by omega, g1 u hu, bs_end])
  have G12 := G1.tr G2 (T := inC) (fun _ z => z) (fun _ z => z)
  have hb := bs_le (n := n) (sz := sz) (tm := tm) 0 w (by omega)
  have e0 : F_X1_choose 71 (nI t) h = F_X1_choose_65 1 71 (nI n) (nI w) (nI 0 - 1) h2 := by
    unfold F_X1_choose F_X1_choose_b F_X1_timeOfSmallest F_X1_timeOfSmallest_b
    rw [M.1, Option.bind_some, M.gr.1, Option.bind_some, row_length M.2.1, Option.bind_some, show (5 : Int32) = nI 5 from rfl, nI_div (by omega) (by omega), show n * 5 / 5 = n by omega, show (8 : Int32) = nI 8 from rfl, jmin (by omega) (by omega), Option.bind_some, show (if 8 < n then 8 else n) = n by split <;> omega, Option.bind_some, show F_X1_timeOfSmallest_4 am_F 71 (nI n) 0 0 h = some (nI (tS sz tm n)) from small_4 H M am_F n 0 (by omega) (by show _ < 100000; omega), Option.bind_some, show (1152 : Int32) = nI 1152 from rfl, jmin (by omega) (by omega), Option.bind_some, jmin (by omega) (by split <;> omega), Option.bind_some, show (if (if 1152 < tS sz tm n then 1152 else tS sz tm n) < t then (if 1152 < tS sz tm n then 1152 else tS sz tm n) else t) = w from hwe, show (0 : Int32) = nI 0 from rfl, jmax (by omega) (by omega), Option.bind_some, show (if 0 < w then w else 0) = w by split <;> omega]
    exact e1.trans e2
  rw [e0, F_X1_choose_65, if_pos m1_lt, M2.gr.2.2.1, Option.bind_some, show (0 : Int32) = nI 0 from rfl, M2.2.2.2.1.al (show 0 < 9 by omega) (by decide), Option.bind_some, M2.2.2.2.1.il (show 0 < 9 by omega) (show w < 1153 by omega) (by decide), Option.bind_some, g2 0 (by omega) w (Nat.le_refl _)]
  by_cases c : bs n sz tm 0 w < 1000000
  · rw [if_pos (show nI (bs n sz tm 0 w) < (1000000 : Int32) from nI_lt (b := 1000000) c (by decide)), decide_eq_true c]
    obtain ⟨h3, e3, M3, G3⟩ := M2.empK
    obtain ⟨h4, e4, M4, G4⟩ := M3.p4 (nI (bs n sz tm 0 w))
    obtain ⟨h5, e5, M5, G5⟩ := M4.p5 (nI 0)
    obtain ⟨h6, kf6, e6, M6, G6, g6⟩ := tell_26 H hw g2 c am_F n 0 h5 kf M5 (by omega) (by show _ < 100000; omega) (fun j hj => by omega)
    refine ⟨h6, _, _, T2, n, kf6, ?_, M6, (((G12.tr G3 (T := inC) (fun _ z => z) (fun _ z => z)).tr G4 (T := inC) (fun _ z => z) (fun _ z => z)).tr G5 (T := inC) (fun _ z => z) (fun _ z => z)).tr G6 (fun _ z => z) (fun _ z => z), fun _ => ⟨rfl, rfl, rfl, g6⟩⟩
    unfold F_X1_tell F_X1_tell_b
    rw [M2.1, Option.bind_some, M2.gr.2.2.2.1, Option.bind_some, e3, Option.bind_some, M3.gr.2.2.1, Option.bind_some, show (0 : Int32) = nI 0 from rfl, M3.2.2.2.1.al (show 0 < 9 by omega) (by decide), Option.bind_some, M3.2.2.2.1.il (show 0 < 9 by omega) (show w < 1153 by omega) (by decide), Option.bind_some, g2 0 (by omega) w (Nat.le_refl _), e4, Option.bind_some, e5, Option.bind_some, e6, Option.bind_some]
    rfl
  · rw [if_neg (show ¬ nI (bs n sz tm 0 w) < (1000000 : Int32) from nI_nlt (b := 1000000) (by omega) (by omega)), decide_eq_false c]
    exact ⟨h2, _, _, T2, p, kf, rfl, M2, G12, fun z => absurd z c⟩
end CX2
