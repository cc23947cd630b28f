/-! MATES: the class's side -/
def MA (h : am_H) (L F N : Nat → Int32) (m : Nat) (f : Nat → Int32) : Prop := am_obj 24 2 h = some [.ref 25, .ref 26, .ref 27, .ref 28] ∧ am_ia 0 25 h = some (25, L) ∧ am_ia 0 26 h = some (25, F) ∧ am_ia 0 27 h = some (10, N) ∧ RowAt h 28 24 m f
abbrev inM (q : Nat) : Prop := 24 ≤ q ∧ q < 30
theorem fill_t {a M : Nat} {h : am_H} {f : Nat → Int32} (e : am_ia 0 a h = some (M, f)) (hM : M < 100000) (x : Int32) : ∃ h' f', F_J7_fill_53178 a x h = some h' ∧ am_ia 0 a h' = some (M, f') ∧ (∀ k, k < M → f' k = x) ∧ Fr (fun q => q = a) h h' := by
  have loop : ∀ (q k i : Nat) (h : am_H) (f : Nat → Int32), am_ia 0 a h = some (M, f) → i + k = M → k < q → (∀ j, j < i → f j = x) → ∃ h' f', F_J7_fill_53178_5 q a x (nI i) (nI M) h = some h' ∧ am_ia 0 a h' = some (M, f') ∧ (∀ k, k < M → f' k = x) ∧ Fr (fun q => q = a) h h' := by
    intro q
    induction q with
    | zero => intro k i h f e h1 h2; omega
    | succ q ih =>
      intro k i h f e h1 h2 h3
      rw [F_J7_fill_53178_5]
      cases k with
      | zero =>
        rw [if_pos (nI_le (by omega) (by omega))]
        exact ⟨h, f, rfl, e, fun k hk => h3 k (by omega), Fr.rf⟩
      | succ k =>
        obtain ⟨h', e', i', F⟩ := ia_set e (show i < M by omega) (by omega) x
        rw [if_neg (nI_ge (by omega) (by omega)), e', Option.bind_some, nI_1]
        obtain ⟨h2, f2, e2, i2, g2, F2⟩ := ih k (i + 1) h' _ i' (by omega) (by omega) (fun j hj => by
          by_cases z : j = i
          · rw [z, upd_self]
          · rw [upd_ne z]; exact h3 j (by omega))
        exact ⟨h2, f2, e2, i2, g2, F.tr F2 (fun _ z => z) (fun _ z => z)⟩
  unfold F_J7_fill_53178 F_J7_fill_53178_b
  rw [ln_ia e (by decide), Option.bind_some]
  exact loop am_F M 0 h f e (by omega) (by show _ < 100000; omega) (fun j hj => by omega)
section MX
variable {h : am_H} {L F N f : Nat → Int32} {m : Nat}
theorem MA.gr (M : MA h L F N m f) : am_gr 2 0 24 h = some 25 ∧ am_gr 2 1 24 h = some 26 ∧ am_gr 2 2 24 h = some 27 ∧ am_gr 2 3 24 h = some 28 := by
  unfold am_gr
  rw [M.1]
  exact ⟨rfl, rfl, rfl, rfl⟩
theorem MA.setL (M : MA h L F N m f) {k : Nat} (hk : k < 25) (x : Int32) : ∃ h', am_is 0 25 (nI k) x h = some h' ∧ MA h' (upd L k x) F N m f ∧ Fr inM h h' := by
  obtain ⟨h', e, i, G⟩ := ia_set M.2.1 hk (by decide) x
  exact ⟨h', e, ⟨(obj_at (G.2.2 _ (by omega))).trans M.1, i, (ia_at (G.2.2 _ (by omega))).trans M.2.2.1, (ia_at (G.2.2 _ (by omega))).trans M.2.2.2.1, M.2.2.2.2.fr G (by omega) (by omega)⟩, G.mono (fun q z => by unfold inM; omega)⟩
theorem MA.setF (M : MA h L F N m f) {k : Nat} (hk : k < 25) (x : Int32) : ∃ h', am_is 0 26 (nI k) x h = some h' ∧ MA h' L (upd F k x) N m f ∧ Fr inM h h' := by
  obtain ⟨h', e, i, G⟩ := ia_set M.2.2.1 hk (by decide) x
  exact ⟨h', e, ⟨(obj_at (G.2.2 _ (by omega))).trans M.1, (ia_at (G.2.2 _ (by omega))).trans M.2.1, i, (ia_at (G.2.2 _ (by omega))).trans M.2.2.2.1, M.2.2.2.2.fr G (by omega) (by omega)⟩, G.mono (fun q z => by unfold inM; omega)⟩
theorem MA.setN (M : MA h L F N m f) {k : Nat} (hk : k < 10) (x : Int32) : ∃ h', am_is 0 27 (nI k) x h = some h' ∧ MA h' L F (upd N k x) m f ∧ Fr inM h h' := by
  obtain ⟨h', e, i, G⟩ := ia_set M.2.2.2.1 hk (by decide) x
  exact ⟨h', e, ⟨(obj_at (G.2.2 _ (by omega))).trans M.1, (ia_at (G.2.2 _ (by omega))).trans M.2.1, (ia_at (G.2.2 _ (by omega))).trans M.2.2.1, i, M.2.2.2.2.fr G (by omega) (by omega)⟩, G.mono (fun q z => by unfold inM; omega)⟩
theorem MA.il (M : MA h L F N m f) {k : Nat} (hk : k < 25) : am_il 0 25 (nI k) h = some (L k) ∧ am_il 0 26 (nI k) h = some (F k) := ⟨il_ia M.2.1 hk (by decide), il_ia M.2.2.1 hk (by decide)⟩
theorem MA.ilN (M : MA h L F N m f) {k : Nat} (hk : k < 10) : am_il 0 27 (nI k) h = some (N k) := il_ia M.2.2.2.1 hk (by decide)
end MX
section MX2
variable {s : Nat → Nat} {n a p : Nat}
/-- a row of signs -/
def SgAt (h : am_H) (a n : Nat) (s : Nat → Nat) : Prop := 116 ≤ a ∧ (∃ f, RowAt h a n n f ∧ ∀ k, k < n → f k = nI (s k)) ∧ n ≤ 24 ∧ ∀ k, k < n → s k < 16
theorem SgAt.fr {P : Nat → Prop} {h h' : am_H} (r : SgAt h a n s) (F : Fr P h h') (hp : ∀ q, 116 ≤ q → ¬ P q) : SgAt h' a n s := by
  obtain ⟨h1, ⟨f, r1, r2⟩, h3⟩ := r
  exact ⟨h1, ⟨f, r1.fr F (hp _ h1) (hp _ (by omega)), r2⟩, h3⟩
theorem SgAt.at {h : am_H} (r : SgAt h a n s) {k : Nat} (hk : k < n) : F_X4_at a (nI k) h = some (nI (s k)) := by
  obtain ⟨h1, ⟨f, r1, r2⟩, h3⟩ := r
  rw [row_at r1 hk, r2 k hk]
theorem SgAt.out {h : am_H} (r : SgAt h a n s) {i : Int32} (hk : ¬ vd n i) : F_X4_at a i h = some (-1) := by
  obtain ⟨h1, ⟨f, r1, r2⟩, h3⟩ := r
  rw [row_at_out r1 hk]
theorem SgAt.len {h : am_H} (r : SgAt h a n s) : F_X4_length a h = some (nI n) := by
  obtain ⟨h1, ⟨f, r1, r2⟩, h3⟩ := r
  exact row_length r1
theorem inM_d (q : Nat) (h : 116 ≤ q) : ¬ inM q := by unfold inM; omega
theorem near_in25 {K : Nat → Nat → Int32 → Int32 → Int32 → am_H → Option am_H} {b m : Nat} {Lf F f : Nat → Int32} (hb : b ≤ p) (hb2 : 1 ≤ b) (hp : p < n) : ∀ (q k L : Nat) (h : am_H) (N : Nat → Int32), SgAt h a n s → MA h Lf F N m f → 1 ≤ L → L + k = 10 → k < q → (∀ j, j < L - 1 → s (p + j) = s (p + j - b)) → p + (L - 1) ≤ n →
    ∃ h' N', F_X2_findNearest_25 K q 24 a (nI n) (nI p) (nI b) (nI L) h = K 24 a (nI n) (nI p) (nI b - 1) h' ∧ SgAt h' a n s ∧ MA h' Lf F N' m f ∧ Fr inM h h' ∧ (∀ M, M < L → N' M = N M) ∧ (∀ M, L ≤ M → M < 10 → N' M = if mtB s n p M b = true then nI b else N M)
  | 0, k, L, h, N, r, M, h0, h1, h2, h3, h4 => by omega
  | q + 1, k, L, h, N, r, M, h0, h1, h2, h3, h4 => by
    have hn := r.2.2.1
    rw [F_X2_findNearest_25]
    unfold F_X2_findNearest_84
    rw [dn_nI]
    by_cases c1 : 9 < L
    · rw [if_pos (show (9 : Int32) < nI L from nI_lt (a := 9) c1 (by omega))]
      exact ⟨h, N, rfl, r, M, Fr.rf, fun _ _ => rfl, fun M' h5 h6 => by omega⟩
    · rw [if_neg (show ¬ (9 : Int32) < nI L from nI_nlt (a := 9) (by omega) (by omega)), nI_add]
      by_cases c2 : n < p + L
      · rw [if_pos (nI_lt c2 (by omega))]
        exact ⟨h, N, rfl, r, M, Fr.rf, fun _ _ => rfl, fun M' h5 h6 => by rw [mtB_f (fun z => by omega), if_neg (by decide)]⟩
      · rw [if_neg (nI_nlt (by omega) (by omega)), show nI (p + L) = nI (p + L - 1 + 1) by rw [show p + L - 1 + 1 = p + L by omega], pre_nI, r.at (show p + L - 1 < n by omega), Option.bind_some, nI_subN (show b ≤ p + L - 1 by omega), r.at (show p + L - 1 - b < n by omega), Option.bind_some]
        have s1 := r.2.2.2 (p + L - 1) (by omega)
        have s2 := r.2.2.2 (p + L - 1 - b) (by omega)
        by_cases c3 : s (p + L - 1) = s (p + L - 1 - b)
        · rw [if_pos (by rw [c3]), M.gr.2.2.1, Option.bind_some]
          obtain ⟨h', e', M', G⟩ := M.setN (show L < 10 by omega) (nI b)
          rw [e', Option.bind_some, nI_1]
          have h3' : ∀ j, j < L + 1 - 1 → s (p + j) = s (p + j - b) := fun j hj => by
            by_cases z : j = L - 1
            · rw [z, show p + (L - 1) = p + L - 1 by omega]; exact c3
            · exact h3 j (by omega)
          obtain ⟨h2, N2, e2, r2, M2, G2, g1, g2⟩ := near_in25 (K := K) hb hb2 hp q (k - 1) (L + 1) h' _ (r.fr G inM_d) M' (by omega) (by omega) (by omega) h3' (by omega)
          refine ⟨h2, N2, e2, r2, M2, G.tr G2 (fun _ z => z) (fun _ z => z), fun K' h5 => by rw [g1 K' (by omega), upd_ne (by omega)], fun K' h5 h6 => ?_⟩
          by_cases z : K' = L
          · rw [z, g1 L (by omega), upd_self, mtB_t.mpr ⟨hb, by omega, fun j hj => h3' j (by omega)⟩, if_pos rfl]
          · rw [g2 K' (by omega) h6, upd_ne z]
        · rw [if_neg (fun z => c3 ((nI_eq (by omega) (by omega)).mp z))]
          exact ⟨h, N, rfl, r, M, Fr.rf, fun _ _ => rfl, fun M' h5 h6 => by
            rw [mtB_f, if_neg (by decide)]
            rintro ⟨-, -, z⟩
            apply c3
            have := z (L - 1) (by omega)
            rw [show p + (L - 1) = p + L - 1 by omega] at this
            exact this⟩
theorem near_out {m : Nat} {Lf F f : Nat → Int32} (hp : p < n) : ∀ (q b : Nat) (h : am_H) (N : Nat → Int32), SgAt h a n s → MA h Lf F N m f → b ≤ p → b ≤ 15 → b < q → (∀ M, 1 ≤ M → M < 10 → N M = nI (nr s n p M (15 - b) (b + 1))) →
    ∃ h' N', F_X2_findNearest_16 q 24 a (nI n) (nI p) (nI b) h = some h' ∧ SgAt h' a n s ∧ MA h' Lf F N' m f ∧ Fr inM h h' ∧ (∀ M, 1 ≤ M → M < 10 → N' M = nI (near s n p M))
  | 0, b, h, N, r, M, h1, h2, h3, h4 => by omega
  | q + 1, 0, h, N, r, M, h1, h2, h3, h4 => by
    rw [F_X2_findNearest_16, if_pos (show nI 0 < (1 : Int32) by decide)]
    exact ⟨h, N, rfl, r, M, Fr.rf, h4⟩
  | q + 1, b + 1, h, N, r, M, h1, h2, h3, h4 => by
    have hn := r.2.2.1
    rw [F_X2_findNearest_16, if_neg (show ¬ nI (b + 1) < (1 : Int32) from nI_nlt (b := 1) (by omega) (by omega))]
    obtain ⟨h', N', e, r', M', G, g1, g2⟩ := near_in25 (K := F_X2_findNearest_16 q) (Lf := Lf) (F := F) (f := f) h1 (by omega) hp am_F 9 1 h N r M (by omega) (by omega) (by show _ < 100000; omega) (fun j hj => by omega) (by omega)
    rw [show (1 : Int32) = nI 1 from rfl, e, pre_nI]
    obtain ⟨h2, N2, e2, r2, M2, G2, g3⟩ := near_out hp q b h' N' r' M' (by omega) (by omega) (by omega) (fun K h5 h6 => by
      rw [g2 K h5 h6, h4 K h5 h6]
      show _ = nI (nr s n p K (15 - b) (b + 1))
      rw [show 15 - b = 15 - (b + 1) + 1 by omega]
      show _ = nI (if mtB s n p K (b + 1) = true then b + 1 else nr s n p K (15 - (b + 1)) (b + 1 + 1))
      split <;> rfl)
    exact ⟨h2, N2, e2, r2, M2, G.tr G2 (fun _ z => z) (fun _ z => z), g3⟩
theorem findNearest_t {m : Nat} {Lf F N f : Nat → Int32} {h : am_H} (hp : p < n) (r : SgAt h a n s) (M : MA h Lf F N m f) : ∃ h' N', F_X2_findNearest 24 a (nI n) (nI p) h = some h' ∧ SgAt h' a n s ∧ MA h' Lf F N' m f ∧ Fr inM h h' ∧ (∀ K, 1 ≤ K → K < 10 → N' K = nI (near s n p K)) := by
  have hn := r.2.2.1
  obtain ⟨h1, N1, e1, i1, g1, G⟩ := fill_t M.2.2.2.1 (by decide) 0
  have G' : Fr inM h h1 := G.mono (fun q z => by unfold inM; omega)
  have M1 : MA h1 Lf F N1 m f := ⟨(obj_at (G.2.2 _ (by omega))).trans M.1, (ia_at (G.2.2 _ (by omega))).trans M.2.1, (ia_at (G.2.2 _ (by omega))).trans M.2.2.1, i1, M.2.2.2.2.fr G (by omega) (by omega)⟩
  unfold F_X2_findNearest F_X2_findNearest_b
  rw [M.1, Option.bind_some, M.gr.2.2.1, Option.bind_some, e1, Option.bind_some, show (15 : Int32) = nI 15 from rfl, jmin (by omega) (by omega), Option.bind_some]
  obtain ⟨h2, N2, e2, r2, M2, G2, g2⟩ := near_out hp am_F (if 15 < p then 15 else p) h1 N1 (r.fr G' inM_d) M1 (by split <;> omega) (by split <;> omega) (by show _ < 100000; split <;> omega) (fun K h5 h6 => by
    rw [g1 K (by omega), nr_0]
    · rfl
    · intro j h7 h8
      apply mtB_f
      rintro ⟨z, -, -⟩
      split at h7 <;> split at h8 <;> omega)
  exact ⟨h2, N2, e2, r2, M2, G'.tr G2 (fun _ z => z) (fun _ z => z), g2⟩
/-! the piece that is chosen -/
theorem choose_loop {m : Nat} {N f : Nat → Int32} {T : Nat → Nat} (hp : p < n) (hT : ∀ q, T q ≤ 1000) (hN : ∀ K, 1 ≤ K → K < 10 → N K = nI (near s n p K)) : ∀ (q k j : Nat) (h : am_H) (Lf F : Nat → Int32), SgAt h a n s → MA h Lf F N m f → j + k = 8 → k < q → (∀ r, p < r → r ≤ n → Lf r = nI (T r)) → Lf p = nI (ch s n p T j).1 → F p = nI (ch s n p T j).2 →
    ∃ h' Lf' F', F_X2_choosePiece_33 q 24 (nI n) (nI p) (nI (j + 2)) h = some h' ∧ SgAt h' a n s ∧ MA h' Lf' F' N m f ∧ Fr inM h h' ∧ (∀ r, r ≠ p → Lf' r = Lf r) ∧ (∀ r, r ≠ p → F' r = F r) ∧ Lf' p = nI (ch s n p T 8).1 ∧ F' p = nI (ch s n p T 8).2
  | 0, k, j, h, Lf, F, r, M, h1, h2, h3, h4, h5 => by omega
  | q + 1, k, j, h, Lf, F, r, M, h1, h2, h3, h4, h5 => by
    have hn := r.2.2.1
    rw [F_X2_choosePiece_33]
    unfold F_X2_choosePiece_116 F_X2_choosePiece_110
    have hc := ch_le s n p T j
    have hTp := hT (p + 1)
    cases k with
    | zero =>
      rw [if_pos (show (9 : Int32) < nI (j + 2) from nI_lt (a := 9) (by omega) (by omega))]
      have e8 : j = 8 := by omega
      subst e8
      exact ⟨h, Lf, F, rfl, r, M, Fr.rf, fun _ _ => rfl, fun _ _ => rfl, h4, h5⟩
    | succ k =>
      rw [if_neg (show ¬ (9 : Int32) < nI (j + 2) from nI_nlt (a := 9) (by omega) (by omega)), nI_add]
      by_cases c1 : n < p + (j + 2)
      · rw [if_pos (nI_lt c1 (by omega))]
        have hst : ∀ i, j ≤ i → ch s n p T i = ch s n p T j := by
          intro i
          induction i with
          | zero => intro z; rw [show j = 0 by omega]
          | succ i ih =>
            intro z
            by_cases z2 : j = i + 1
            · rw [z2]
            · rw [← ih (by omega)]
              show (if 0 < near s n p (i + 2) ∧ 11 + T (p + (i + 2)) < (ch s n p T i).1 then _ else _) = _
              rw [if_neg (fun q => by have := near_in q.1; omega)]
        rw [hst 8 (by omega)]
        exact ⟨h, Lf, F, rfl, r, M, Fr.rf, fun _ _ => rfl, fun _ _ => rfl, h4, h5⟩
      · have hTj := hT (p + (j + 2))
        have hnl := near_le (s := s) (n := n) (p := p) (L := j + 2)
        have ec : ch s n p T (j + 1) = if 0 < near s n p (j + 2) ∧ 11 + T (p + (j + 2)) < (ch s n p T j).1 then (11 + T (p + (j + 2)), 16 * (j + 2) + near s n p (j + 2)) else ch s n p T j := rfl
        rw [if_neg (nI_nlt (by omega) (by omega)), M.gr.1, Option.bind_some, (M.il (show p + (j + 2) < 25 by omega)).1, Option.bind_some, h3 _ (by omega) (by omega), M.gr.2.2.1, Option.bind_some, M.ilN (show j + 2 < 10 by omega), Option.bind_some, hN (j + 2) (by omega) (by omega), nI_1, show (11 : Int32) = nI 11 from rfl, nI_add]
        by_cases c2 : 0 < near s n p (j + 2)
        · rw [if_neg (nI_nle c2 (by omega)), Option.bind_some, (M.il (show p < 25 by omega)).1, Option.bind_some, h4]
          by_cases c3 : 11 + T (p + (j + 2)) < (ch s n p T j).1
          · rw [if_neg (nI_ge c3 (by omega)), Option.bind_some]
            obtain ⟨h', e', M', G⟩ := M.setL (show p < 25 by omega) (nI (11 + T (p + (j + 2))))
            rw [e', Option.bind_some, M'.gr.2.1, Option.bind_some, M'.gr.2.2.1, Option.bind_some, M'.ilN (show j + 2 < 10 by omega), Option.bind_some, hN (j + 2) (by omega) (by omega), show (16 : Int32) = nI 16 from rfl, nI_mulN, nI_add]
            obtain ⟨h'', e'', M'', G'⟩ := M'.setF (show p < 25 by omega) (nI (16 * (j + 2) + near s n p (j + 2)))
            rw [e'', Option.bind_some]
            have GG := G.tr G' (fun _ z => z) (fun _ z => z)
            obtain ⟨h2, L2, F2, e2, r2, M2, G2, g1, g2, g3, g4⟩ := choose_loop hp hT hN q k (j + 1) h'' _ _ (r.fr GG inM_d) M'' (by omega) (by omega) (fun r h6 h7 => by rw [upd_ne (by omega)]; exact h3 r h6 h7) (by rw [upd_self, ec, if_pos ⟨c2, c3⟩]) (by rw [upd_self, ec, if_pos ⟨c2, c3⟩])
            exact ⟨h2, L2, F2, e2, r2, M2, GG.tr G2 (fun _ z => z) (fun _ z => z), fun r h6 => by rw [g1 r h6, upd_ne h6], fun r h6 => by rw [g2 r h6, upd_ne h6], g3, g4⟩
          · rw [if_pos (nI_le (by omega) (by omega))]
            exact choose_loop hp hT hN q k (j + 1) h Lf F r M (by omega) (by omega) h3 (by rw [ec, if_neg (fun z => c3 z.2)]; exact h4) (by rw [ec, if_neg (fun z => c3 z.2)]; exact h5)
        · rw [if_pos (show nI (near s n p (j + 2)) ≤ 0 by rw [show near s n p (j + 2) = 0 by omega]; decide)]
          exact choose_loop hp hT hN q k (j + 1) h Lf F r M (by omega) (by omega) h3 (by rw [ec, if_neg (fun z => c2 z.1)]; exact h4) (by rw [ec, if_neg (fun z => c2 z.1)]; exact h5)
theorem choosePiece_t {m : Nat} {Lf F N f : Nat → Int32} {h : am_H} {T : Nat → Nat} (hp : p < n) (hT : ∀ q, T q ≤ 1000) (r : SgAt h a n s) (M : MA h Lf F N m f) (hL : ∀ r, p < r → r ≤ n → Lf r = nI (T r)) : ∃ h' Lf' F' N', F_X2_choosePiece 24 a (nI n) (nI p) h = some h' ∧ SgAt h' a n s ∧ MA h' Lf' F' N' m f ∧ Fr inM h h' ∧ (∀ r, r ≠ p → Lf' r = Lf r) ∧ (∀ r, r ≠ p → F' r = F r) ∧ Lf' p = nI (ch s n p T 8).1 ∧ F' p = nI (ch s n p T 8).2 := by
  have hn := r.2.2.1
  obtain ⟨h1, e1, M1, G1⟩ := M.setL (show p < 25 by omega) (nI (5 + T (p + 1)))
  obtain ⟨h2, e2, M2, G2⟩ := M1.setF (show p < 25 by omega) 0
  have r2 := (r.fr G1 inM_d).fr G2 inM_d
  obtain ⟨h3, N3, e3, r3, M3, G3, g3⟩ := findNearest_t hp r2 M2
  obtain ⟨h4, L4, F4, e4, r4, M4, G4, g4, g5, g6, g7⟩ := choose_loop hp hT g3 am_F 8 0 h3 _ _ r3 M3 (by omega) (by show _ < 100000; omega) (fun r h6 h7 => by rw [upd_ne (by omega)]; exact hL r h6 h7) (by rw [upd_self]; rfl) (by rw [upd_self]; rfl)
  refine ⟨h4, L4, F4, N3, ?_, r4, M4, ((G1.tr G2 (T := inM) (fun _ z => z) (fun _ z => z)).tr G3 (T := inM) (fun _ z => z) (fun _ z => z)).tr G4 (fun _ z => z) (fun _ z => z), fun r h6 => by rw [g4 r h6, upd_ne h6], fun r h6 => by rw [g5 r h6, upd_ne h6], g6, g7⟩
  unfold F_X2_choosePiece F_X2_choosePiece_b
  rw [M.1, Option.bind_some, M.gr.1, Option.bind_some, Option.bind_some, nI_1, (M.il (show p + 1 < 25 by omega)).1, Option.bind_some, hL (p + 1) (by omega) (by omega), show (5 : Int32) = nI 5 from rfl, nI_add, e1, Option.bind_some, M1.gr.2.1, Option.bind_some, e2, Option.bind_some, e3, Option.bind_some, show (2 : Int32) = nI (0 + 2) from rfl]
  exact e4
theorem sq_walk {N : Nat → Int32} {Lf F : Nat → Int32} : ∀ (q z p m : Nat) (h : am_H) (f : Nat → Int32) (g : Nat → Nat), SgAt h a n s → MA h Lf F N m f → (∀ r, r < n → F r = nI (cutT s n r)) → m ≤ p → m ≤ n → p ≤ 1000 → n + 1 ≤ p + q → 1 ≤ q → n ≤ p + z → (∀ j, j < m → f j = nI (g j)) →
    ∃ h' f', F_X2_squeeze_47 q 24 (nI n) (nI p) h = some h' ∧ SgAt h' a n s ∧ MA h' Lf F N (pw (cutT s n) n z p m g).1 f' ∧ Fr inM h h' ∧ (∀ j, j < (pw (cutT s n) n z p m g).1 → f' j = nI ((pw (cutT s n) n z p m g).2 j))
  | 0, z, p, m, h, f, g, r, M, hF, h1, h2, hp, h3, h4, h5, h6 => by omega
  | q + 1, z, p, m, h, f, g, r, M, hF, h1, h2, hp, h3, h4, h5, h6 => by
    have hn := r.2.2.1
    rw [F_X2_squeeze_47]
    by_cases c : n ≤ p
    · rw [if_pos (nI_le c (by omega))]
      have e : pw (cutT s n) n z p m g = (m, g) := by
        cases z with
        | zero => rfl
        | succ z => exact if_pos c
      rw [e]
      exact ⟨h, f, rfl, r, M, Fr.rf, h6⟩
    · have hT := (tb_le s n n p).2
      have hs := (stp_pos (s := s) (show p < n by omega))
      have hT2 : cutT s n p ≤ 159 := hT
      have est : (if 1 < cutT s n p / 16 then cutT s n p / 16 else 1) = stp (cutT s n p) := by
        unfold stp
        rcases hs.2 with q | q
        · rw [q, if_pos rfl]; rfl
        · rw [if_pos (by omega), if_neg (fun e => by rw [e] at q; omega)]
      obtain ⟨h1', e1, r1, G1⟩ := row_add M.2.2.2.2 (show m < 24 by omega) (nI (cutT s n p))
      have G1' : Fr inM h h1' := G1.mono (fun q z => by unfold inM; omega)
      have M1 : MA h1' Lf F N (m + 1) (upd f m (nI (cutT s n p))) := ⟨(obj_at (G1.2.2 _ (by omega))).trans M.1, (ia_at (G1.2.2 _ (by omega))).trans M.2.1, (ia_at (G1.2.2 _ (by omega))).trans M.2.2.1, (ia_at (G1.2.2 _ (by omega))).trans M.2.2.2.1, r1⟩
      rw [if_neg (nI_ge (by omega) (by omega)), M.gr.2.2.2, Option.bind_some, M.gr.2.1, Option.bind_some, (M.il (show p < 25 by omega)).2, Option.bind_some, hF p (by omega), e1, Option.bind_some, M1.gr.2.1, Option.bind_some, (M1.il (show p < 25 by omega)).2, Option.bind_some, hF p (by omega), show (16 : Int32) = nI 16 from rfl, nI_div (by omega) (by omega), show (1 : Int32) = nI 1 from rfl, jmax (by omega) (by omega), Option.bind_some, est, nI_add]
      obtain ⟨z', ez⟩ : ∃ z', z = z' + 1 := ⟨z - 1, by omega⟩
      subst ez
      have hst : stp (cutT s n p) ≤ 159 := by unfold stp; split <;> omega
      have e : pw (cutT s n) n (z' + 1) p m g = pw (cutT s n) n z' (p + stp (cutT s n p)) (m + 1) (updN g m (cutT s n p)) := if_neg c
      rw [e]
      obtain ⟨h2, f2, e2, r2, M2, G2, g2⟩ := sq_walk q z' (p + stp (cutT s n p)) (m + 1) h1' _ (updN g m (cutT s n p)) (r.fr G1' inM_d) M1 hF (by omega) (by omega) (by omega) (by omega) (by omega) (by omega) (fun j hj => by
        show (if j = m then nI (cutT s n p) else f j) = nI (if j = m then _ else _)
        by_cases z : j = m
        · rw [if_pos z, if_pos z]
        · rw [if_neg z, if_neg z]; exact h6 j (by omega))
      exact ⟨h2, f2, e2, r2, M2, G1'.tr G2 (fun _ z => z) (fun _ z => z), g2⟩
theorem sq_down {m : Nat} {f : Nat → Int32} : ∀ (q p : Nat) (h : am_H) (Lf F N : Nat → Int32), SgAt h a n s → MA h Lf F N m f → p ≤ n → p < q → (∀ r, p ≤ r → r ≤ n → Lf r = nI (tb s n (n - p) r).1) → (∀ r, p ≤ r → r < n → F r = nI (tb s n (n - p) r).2) →
    ∃ h' Lf' F' N' f', F_X2_squeeze_21 q 24 a (nI n) (nI p - 1) h = some h' ∧ SgAt h' a n s ∧ MA h' Lf' F' N' (cutP s n).1 f' ∧ Fr inM h h' ∧ (∀ j, j < (cutP s n).1 → f' j = nI ((cutP s n).2 j)) ∧ Lf' 0 = nI (tb s n n 0).1
  | 0, p, h, Lf, F, N, r, M, h1, h2, h3, h4 => by omega
  | q + 1, 0, h, Lf, F, N, r, M, h1, h2, h3, h4 => by
    have hn := r.2.2.1
    rw [F_X2_squeeze_21, if_pos m1_lt, M.gr.2.2.2, Option.bind_some]
    obtain ⟨h1', e1, r1, G1⟩ := row_empty M.2.2.2.2
    have G1' : Fr inM h h1' := G1.mono (fun q z => by unfold inM; omega)
    have M1 : MA h1' Lf F N 0 f := ⟨(obj_at (G1.2.2 _ (by omega))).trans M.1, (ia_at (G1.2.2 _ (by omega))).trans M.2.1, (ia_at (G1.2.2 _ (by omega))).trans M.2.2.1, (ia_at (G1.2.2 _ (by omega))).trans M.2.2.2.1, r1⟩
    rw [e1, Option.bind_some]
    obtain ⟨h2, f2, e2, r2, M2, G2, g2⟩ := sq_walk am_F (n + 1) 0 0 h1' f (fun _ => 0) (r.fr G1' inM_d) M1 (fun r hr => h4 r (by omega) hr) (by omega) (by omega) (by omega) (by show _ ≤ 0 + 100000; omega) (by show 1 ≤ 100000; omega) (by omega) (fun j hj => by omega)
    exact ⟨h2, Lf, F, N, f2, e2, r2, M2, G1'.tr G2 (fun _ z => z) (fun _ z => z), g2, h3 0 (by omega) (by omega)⟩
  | q + 1, p + 1, h, Lf, F, N, r, M, h1, h2, h3, h4 => by
    have hn := r.2.2.1
    rw [F_X2_squeeze_21, pre_nI, if_neg (nI_pos (by omega))]
    have ek : n - p = n - (p + 1) + 1 := by omega
    have ep : p = n - (n - (p + 1) + 1) := by omega
    obtain ⟨h', L', F', N', e, r', M', G, g1, g2, g3, g4⟩ := choosePiece_t (T := fun q => (tb s n (n - (p + 1)) q).1) (show p < n by omega) (fun q => by have := (tb_le s n (n - (p + 1)) q).1; show (tb s n (n - (p + 1)) q).1 ≤ 1000; omega) r M (fun r h5 h6 => h3 r (by omega) h6)
    rw [e, Option.bind_some, dn_nI]
    have hnew : tb s n (n - p) p = ch s n p (fun q => (tb s n (n - (p + 1)) q).1) 8 := by
      rw [ek]
      exact if_pos ep
    have hold : ∀ r, r ≠ p → tb s n (n - p) r = tb s n (n - (p + 1)) r := fun r hr => by
      rw [ek]
      exact tb_same s n _ r (by omega)
    obtain ⟨h2, L2, F2, N2, f2, e2, r2, M2, G2, g⟩ := sq_down q p h' L' F' N' r' M' (by omega) (by omega) (fun r h5 h6 => by
      by_cases z : r = p
      · rw [z, g3, hnew]
      · rw [g1 r z, hold r z]; exact h3 r (by omega) h6) (fun r h5 h6 => by
      by_cases z : r = p
      · rw [z, g4, hnew]
      · rw [g2 r z, hold r z]; exact h4 r (by omega) h6)
    exact ⟨h2, L2, F2, N2, f2, e2, r2, M2, G.tr G2 (fun _ z => z) (fun _ z => z), g⟩
theorem squeezeM_t {m : Nat} {Lf F N f : Nat → Int32} {h : am_H} (r : SgAt h a n s) (M : MA h Lf F N m f) : ∃ h' Lf' F' N' f', F_X2_squeeze 24 a h = some h' ∧ SgAt h' a n s ∧ MA h' Lf' F' N' (cutP s n).1 f' ∧ Fr inM h h' ∧ (∀ j, j < (cutP s n).1 → f' j = nI ((cutP s n).2 j)) ∧ Lf' 0 = nI (tb s n n 0).1 := by
  have hn := r.2.2.1
  obtain ⟨h1, e1, M1, G1⟩ := M.setL (show n < 25 by omega) 0
  unfold F_X2_squeeze F_X2_squeeze_b
  rw [M.1, Option.bind_some, r.len, Option.bind_some, show (24 : Int32) = nI 24 from rfl, jmin (by omega) (by omega), Option.bind_some, show (if 24 < n then 24 else n) = n by split <;> omega, M.gr.1, Option.bind_some, e1, Option.bind_some]
  obtain ⟨h2, L2, F2, N2, f2, e2, r2, M2, G2, g⟩ := sq_down am_F n h1 _ _ _ (r.fr G1 inM_d) M1 (Nat.le_refl _) (by show _ < 100000; omega) (fun r h5 h6 => by
    rw [show r = n by omega, upd_self, Nat.sub_self]; rfl) (fun r h5 h6 => by omega)
  exact ⟨h2, L2, F2, N2, f2, e2, r2, M2, G1.tr G2 (fun _ z => z) (fun _ z => z), g⟩
end MX2
