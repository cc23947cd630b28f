/-! TURNED: the class's side -/
def TA (h : am_H) (e : Int32) (T F : Nat → Int32) (m : Nat) (f : Nat → Int32) (m' : Nat) (f' : Nat → Int32) : Prop := am_obj 64 6 h = some [.ref 65, .ref 66, .ref 67, .ref 69, .int e] ∧ am_ia 0 65 h = some (25, T) ∧ am_ia 0 66 h = some (16, F) ∧ RowAt h 67 24 m f ∧ RowAt h 69 24 m' f'
abbrev inT (q : Nat) : Prop := 64 ≤ q ∧ q < 71
theorem inT_d (q : Nat) (h : 116 ≤ q) : ¬ inT q := by unfold inT; omega
section TX
variable {h : am_H} {e : Int32} {T F f f' : Nat → Int32} {m m' : Nat}
theorem TA.gr (M : TA h e T F m f m' f') : am_gr 6 0 64 h = some 65 ∧ am_gr 6 1 64 h = some 66 ∧ am_gr 6 2 64 h = some 67 ∧ am_gr 6 3 64 h = some 69 ∧ am_gi 6 4 64 h = some e := by
  unfold am_gr am_gi
  rw [M.1]
  exact ⟨rfl, rfl, rfl, rfl, rfl⟩
theorem TA.setE (M : TA h e T F m f m' f') (x : Int32) : ∃ h', am_pi 6 4 64 x h = some h' ∧ TA h' x T F m f m' f' ∧ Fr inT h h' := by
  obtain ⟨h', e', o, G⟩ := ob_set (k := 4) M.1 (show 4 < 5 by decide) x
  exact ⟨h', e', ⟨o, (ia_at (G.2.2 _ (by omega))).trans M.2.1, (ia_at (G.2.2 _ (by omega))).trans M.2.2.1, M.2.2.2.1.fr G (by omega) (by omega), M.2.2.2.2.fr G (by omega) (by omega)⟩, G.mono (fun q z => by unfold inT; omega)⟩
theorem TA.setT (M : TA h e T F m f m' f') {k : Nat} (hk : k < 25) (x : Int32) : ∃ h', am_is 0 65 (nI k) x h = some h' ∧ TA h' e (upd T k x) F m f m' f' ∧ Fr inT h h' := by
  obtain ⟨h', e', i, G⟩ := ia_set M.2.1 hk (by decide) x
  exact ⟨h', e', ⟨(obj_at (G.2.2 _ (by omega))).trans M.1, i, (ia_at (G.2.2 _ (by omega))).trans M.2.2.1, M.2.2.2.1.fr G (by omega) (by omega), M.2.2.2.2.fr G (by omega) (by omega)⟩, G.mono (fun q z => by unfold inT; omega)⟩
theorem TA.setF (M : TA h e T F m f m' f') {k : Nat} (hk : k < 16) (x : Int32) : ∃ h', am_is 0 66 (nI k) x h = some h' ∧ TA h' e T (upd F k x) m f m' f' ∧ Fr inT h h' := by
  obtain ⟨h', e', i, G⟩ := ia_set M.2.2.1 hk (by decide) x
  exact ⟨h', e', ⟨(obj_at (G.2.2 _ (by omega))).trans M.1, (ia_at (G.2.2 _ (by omega))).trans M.2.1, i, M.2.2.2.1.fr G (by omega) (by omega), M.2.2.2.2.fr G (by omega) (by omega)⟩, G.mono (fun q z => by unfold inT; omega)⟩
theorem TA.addL (M : TA h e T F m f m' f') (hm : m < 24) (x : Int32) : ∃ h', F_X4_add 67 x h = some h' ∧ TA h' e T F (m + 1) (upd f m x) m' f' ∧ Fr inT h h' := by
  obtain ⟨h', e', r, G⟩ := row_add M.2.2.2.1 hm x
  exact ⟨h', e', ⟨(obj_at (G.2.2 _ (by omega))).trans M.1, (ia_at (G.2.2 _ (by omega))).trans M.2.1, (ia_at (G.2.2 _ (by omega))).trans M.2.2.1, r, M.2.2.2.2.fr G (by omega) (by omega)⟩, G.mono (fun q z => by unfold inT; omega)⟩
theorem TA.addP (M : TA h e T F m f m' f') (hm : m' < 24) (x : Int32) : ∃ h', F_X4_add 69 x h = some h' ∧ TA h' e T F m f (m' + 1) (upd f' m' x) ∧ Fr inT h h' := by
  obtain ⟨h', e', r, G⟩ := row_add M.2.2.2.2 hm x
  exact ⟨h', e', ⟨(obj_at (G.2.2 _ (by omega))).trans M.1, (ia_at (G.2.2 _ (by omega))).trans M.2.1, (ia_at (G.2.2 _ (by omega))).trans M.2.2.1, M.2.2.2.1.fr G (by omega) (by omega), r⟩, G.mono (fun q z => by unfold inT; omega)⟩
theorem TA.empL (M : TA h e T F m f m' f') : ∃ h', F_X4_empty 67 h = some h' ∧ TA h' e T F 0 f m' f' ∧ Fr inT h h' := by
  obtain ⟨h', e', r, G⟩ := row_empty M.2.2.2.1
  exact ⟨h', e', ⟨(obj_at (G.2.2 _ (by omega))).trans M.1, (ia_at (G.2.2 _ (by omega))).trans M.2.1, (ia_at (G.2.2 _ (by omega))).trans M.2.2.1, r, M.2.2.2.2.fr G (by omega) (by omega)⟩, G.mono (fun q z => by unfold inT; omega)⟩
theorem TA.empP (M : TA h e T F m f m' f') : ∃ h', F_X4_empty 69 h = some h' ∧ TA h' e T F m f 0 f' ∧ Fr inT h h' := by
  obtain ⟨h', e', r, G⟩ := row_empty M.2.2.2.2
  exact ⟨h', e', ⟨(obj_at (G.2.2 _ (by omega))).trans M.1, (ia_at (G.2.2 _ (by omega))).trans M.2.1, (ia_at (G.2.2 _ (by omega))).trans M.2.2.1, M.2.2.2.1.fr G (by omega) (by omega), r⟩, G.mono (fun q z => by unfold inT; omega)⟩
end TX
section TX2
variable {s : Nat → Nat} {n a : Nat}
theorem SgAt.e {h : am_H} (r : SgAt h a n s) {k : Nat} (hk : k < 2 ^ 31) : F_X4_at a (nI k) h = some (eI s n k) := by
  have hn := r.2.2.1
  unfold eI
  by_cases c : k < n
  · rw [if_pos c, r.at c]
  · rw [if_neg c, r.out (fun z => by unfold vd at z; rw [nI_toInt hk] at z; omega)]
theorem ahead_loop {h : am_H} {x y : Nat} (r : SgAt h a n s) (hx : x ≤ 24) (hy : y ≤ 24) : ∀ (q k i : Nat), i + k = n + 1 → k < q → F_X6_isAhead_2 q a (nI x) (nI y) (nI i) h = some (bI (ahd s n x y k i))
  | 0, k, i, h1, h2 => by omega
  | q + 1, 0, i, h1, h2 => by
    have hn := r.2.2.1
    rw [F_X6_isAhead_2, r.len, Option.bind_some, if_pos (nI_lt (by omega) (by omega))]
    rfl
  | q + 1, k + 1, i, h1, h2 => by
    have hn := r.2.2.1
    have hs := r.2.2.2
    have ih := ahead_loop r hx hy q k (i + 1) (by omega) (by omega)
    rw [F_X6_isAhead_2, r.len, Option.bind_some, if_neg (nI_nlt (by omega) (by omega)), nI_add, nI_add, r.e (by omega), Option.bind_some, r.e (by omega), Option.bind_some, nI_1]
    unfold ahd
    by_cases c : eN s n (x + i) = eN s n (y + i)
    · rw [if_pos ((eI_eq hs _ _).mpr c), if_pos c]
      exact ih
    · rw [if_neg (fun z => c ((eI_eq hs _ _).mp z)), if_neg c]
      unfold F_X6_isAhead_47
      by_cases c2 : eN s n (y + i) ≤ eN s n (x + i)
      · rw [if_pos ((eI_le hs _ _).mpr c2), decide_eq_false (by omega)]
        rfl
      · rw [if_neg (fun z => c2 ((eI_le hs _ _).mp z)), decide_eq_true (by omega)]
        rfl
theorem ahead_t {h : am_H} {x y : Nat} (r : SgAt h a n s) (hx : x ≤ 24) (hy : y ≤ 24) : F_X6_isAhead a (nI x) (nI y) h = some (bI (ahd s n x y (n + 1) 0)) := by
  have hn := r.2.2.1
  exact ahead_loop r hx hy am_F (n + 1) 0 (by omega) (by show _ < 100000; omega)
theorem ins_loop {K : Nat → Nat → Int32 → Int32 → am_H → Option am_H} {e : Int32} {F f f' : Nat → Int32} {m m' x : Nat} (hx : x ≤ n) : ∀ (q k : Nat) (h : am_H) (T : Nat → Int32) (t : Nat → Nat), SgAt h a n s → TA h e T F m f m' f' → k ≤ x → k < q → (∀ j, j ≤ x → j ≠ k → T j = nI (t j) ∧ t j < x) →
    ∃ h' T', F_X6_sort_10 K q 64 a (nI n) (nI x) (nI k) h = K 64 a (nI n) (nI (x + 1)) h' ∧ SgAt h' a n s ∧ TA h' e T' F m f m' f' ∧ Fr inT h h' ∧ (∀ j, j ≤ x → T' j = nI (insF s n x k t j))
  | 0, k, h, T, t, r, M, h1, h2, h3 => by omega
  | q + 1, k, h, T, t, r, M, h1, h2, h3 => by
    have hn := r.2.2.1
    have fin : ∃ h' T', F_X6_sort_54 K 64 a (nI n) (nI x) (nI k) h = K 64 a (nI n) (nI (x + 1)) h' ∧ SgAt h' a n s ∧ TA h' e T' F m f m' f' ∧ Fr inT h h' ∧ (∀ j, j ≤ x → T' j = nI (updN t k x j)) := by
      obtain ⟨h', e', M', G⟩ := M.setT (show k < 25 by omega) (nI x)
      refine ⟨h', _, ?_, r.fr G inT_d, M', G, fun j hj => ?_⟩
      · unfold F_X6_sort_54
        rw [M.gr.1, Option.bind_some, e', Option.bind_some, nI_1]
      · by_cases z : j = k
        · rw [z, upd_self, updN_self]
        · rw [upd_ne z, updN_ne z, (h3 j hj z).1]
    rw [F_X6_sort_10]
    cases k with
    | zero =>
      rw [if_pos (show nI 0 ≤ 0 by decide)]
      exact fin
    | succ k =>
      have h4 := h3 k (by omega) (by omega)
      rw [if_neg (nI_nle (by omega) (by omega)), M.gr.1, Option.bind_some, pre_nI, il_ia M.2.1 (show k < 25 by omega) (by decide), Option.bind_some, h4.1, ahead_t r (by omega) (by omega), Option.bind_some]
      unfold insF
      cases hz : ahd s n x (t k) (n + 1) 0 with
      | false =>
        rw [if_pos (show bI false = 0 from rfl), if_neg (show ¬ false = true by decide)]
        exact fin
      | true =>
        rw [if_neg (show ¬ bI true = 0 by decide), if_pos (rfl : true = true), Option.bind_some, Option.bind_some, il_ia M.2.1 (show k < 25 by omega) (by decide), Option.bind_some, h4.1]
        obtain ⟨h', e', M', G⟩ := M.setT (show k + 1 < 25 by omega) (nI (t k))
        rw [e', Option.bind_some, dn_nI, pre_nI]
        obtain ⟨h2', T2, e2, r2, M2, G2, g2⟩ := ins_loop (K := K) hx q k h' _ (updN t (k + 1) (t k)) (r.fr G inT_d) M' (by omega) (by omega) (fun j hj hjk => by
          by_cases z : j = k + 1
          · rw [z, upd_self, updN_self]; exact ⟨rfl, h4.2⟩
          · rw [upd_ne z, updN_ne z]; exact h3 j hj z)
        exact ⟨h2', T2, e2, r2, M2, G.tr G2 (fun _ z => z) (fun _ z => z), g2⟩
theorem sort_loop {e : Int32} {F f f' : Nat → Int32} {m m' : Nat} : ∀ (q k i : Nat) (h : am_H) (T : Nat → Int32), SgAt h a n s → TA h e T F m f m' f' → i + k = n + 1 → k < q → (∀ j, j < i → T j = nI (srt s n i j)) →
    ∃ h' T', F_X6_sort_2 q 64 a (nI n) (nI i) h = some h' ∧ SgAt h' a n s ∧ TA h' e T' F m f m' f' ∧ Fr inT h h' ∧ (∀ j, j ≤ n → T' j = nI (tT s n j))
  | 0, k, i, h, T, r, M, h1, h2, h3 => by omega
  | q + 1, 0, i, h, T, r, M, h1, h2, h3 => by
    have hn := r.2.2.1
    rw [F_X6_sort_2, if_pos (nI_lt (by omega) (by omega))]
    refine ⟨h, T, rfl, r, M, Fr.rf, fun j hj => ?_⟩
    rw [h3 j (by omega), show i = n + 1 by omega]
    rfl
  | q + 1, k + 1, i, h, T, r, M, h1, h2, h3 => by
    have hn := r.2.2.1
    rw [F_X6_sort_2, if_neg (nI_nlt (by omega) (by omega))]
    obtain ⟨h', T', e', r', M', G, g⟩ := ins_loop (K := F_X6_sort_2 q) (show i ≤ n by omega) am_F i h T (srt s n i) r M (Nat.le_refl _) (by show _ < 100000; omega) (fun j hj hjk => ⟨h3 j (by omega), srt_lt s n i j (by omega)⟩)
    rw [e']
    obtain ⟨h2', T2, e2, r2, M2, G2, g2⟩ := sort_loop q k (i + 1) h' T' r' M' (by omega) (by omega) (fun j hj => g j (by omega))
    exact ⟨h2', T2, e2, r2, M2, G.tr G2 (fun _ z => z) (fun _ z => z), g2⟩
/-! to the front -/
theorem shift_loop {e : Int32} {T f f' : Nat → Int32} {m m' x : Nat} {P : Int32} : ∀ (q p : Nat) (h : am_H) (F : Nat → Int32) (t : Nat → Nat), TA h e T F m f m' f' → p < 16 → p < q → (∀ j, j < 16 → F j = nI (t j)) →
    ∃ h' F', F_X6_toFront_31 q 64 (nI x) P (nI p) h = some (P, h') ∧ TA h' e T F' m f m' f' ∧ Fr inT h h' ∧ (∀ j, j < 16 → F' j = nI (shF x p t j))
  | 0, p, h, F, t, M, h1, h2, h3 => by omega
  | q + 1, 0, h, F, t, M, h1, h2, h3 => by
    obtain ⟨h', e', M', G⟩ := M.setF (show 0 < 16 by omega) (nI x)
    rw [F_X6_toFront_31, if_pos (show nI 0 ≤ 0 by decide), M.gr.2.1, Option.bind_some, show (0 : Int32) = nI 0 from rfl, e', Option.bind_some]
    refine ⟨h', _, rfl, M', G, fun j hj => ?_⟩
    show (if j = 0 then nI x else F j) = nI (if j = 0 then x else t j)
    by_cases z : j = 0
    · rw [if_pos z, if_pos z]
    · rw [if_neg z, if_neg z, h3 j hj]
  | q + 1, p + 1, h, F, t, M, h1, h2, h3 => by
    obtain ⟨h', e', M', G⟩ := M.setF (show p + 1 < 16 by omega) (nI (t p))
    rw [F_X6_toFront_31, if_neg (nI_nle (by omega) (by omega)), M.gr.2.1, Option.bind_some, Option.bind_some, pre_nI, il_ia M.2.2.1 (show p < 16 by omega) (by decide), Option.bind_some, h3 p (by omega), e', Option.bind_some, dn_nI, pre_nI]
    obtain ⟨h2', F2, e2, M2, G2, g2⟩ := shift_loop q p h' _ (updN t (p + 1) (t p)) M' (by omega) (by omega) (fun j hj => by
      by_cases z : j = p + 1
      · rw [z, upd_self, updN_self]
      · rw [upd_ne z, updN_ne z]; exact h3 j hj)
    exact ⟨h2', F2, e2, M2, G.tr G2 (fun _ z => z) (fun _ z => z), g2⟩
theorem front_loop {h : am_H} {e : Int32} {T F f f' : Nat → Int32} {m m' x : Nat} {t : Nat → Nat} (hx : x < 16) (ht : ∀ j, j < 16 → t j < 16) (M : TA h e T F m f m' f') (h3 : ∀ j, j < 16 → F j = nI (t j)) : ∀ (q k i : Nat), i + k = 15 → k < q → F_X6_toFront_2 q 64 (nI x) (nI i) h = F_X6_toFront_31 am_F 64 (nI x) (nI (fnd t x k i)) (nI (fnd t x k i)) h
  | 0, k, i, h1, h2 => by omega
  | q + 1, 0, i, h1, h2 => by
    rw [F_X6_toFront_2, M.gr.2.1, Option.bind_some, ln_ia M.2.2.1 (by decide), Option.bind_some, if_pos (show nI 16 - 1 ≤ nI i by rw [show nI 16 - 1 = nI 15 from rfl]; exact nI_le (by omega) (by omega))]
    rfl
  | q + 1, k + 1, i, h1, h2 => by
    have ih := front_loop hx ht M h3 q k (i + 1) (by omega) (by omega)
    have hti := ht i (by omega)
    rw [F_X6_toFront_2, M.gr.2.1, Option.bind_some, ln_ia M.2.2.1 (by decide), Option.bind_some, if_neg (show ¬ nI 16 - 1 ≤ nI i by rw [show nI 16 - 1 = nI 15 from rfl]; exact nI_ge (by omega) (by omega)), Option.bind_some, il_ia M.2.2.1 (show i < 16 by omega) (by decide), Option.bind_some, h3 i (by omega), nI_1]
    unfold fnd
    by_cases c : t i = x
    · rw [if_pos (by rw [c]), if_pos c]
      rfl
    · rw [if_neg (fun z => c ((nI_eq (by omega) (by omega)).mp z)), if_neg c]
      exact ih
theorem toFront_t {h : am_H} {e : Int32} {T F f f' : Nat → Int32} {m m' x : Nat} {t : Nat → Nat} (hx : x < 16) (ht : ∀ j, j < 16 → t j < 16) (M : TA h e T F m f m' f') (h3 : ∀ j, j < 16 → F j = nI (t j)) : ∃ h' F', F_X6_toFront 64 (nI x) h = some (nI (fnd t x 15 0), h') ∧ TA h' e T F' m f m' f' ∧ Fr inT h h' ∧ (∀ j, j < 16 → F' j = nI (shF x (fnd t x 15 0) t j)) := by
  have hp := (fnd_spec t x 15 0).2.1
  obtain ⟨h', F', e', M', G, g⟩ := shift_loop (x := x) (P := nI (fnd t x 15 0)) am_F (fnd t x 15 0) h F t M (by omega) (by show _ < 100000; omega) h3
  refine ⟨h', F', ?_, M', G, g⟩
  unfold F_X6_toFront F_X6_toFront_b
  rw [M.1, Option.bind_some]
  exact (front_loop hx ht M h3 am_F 15 0 (by omega) (by show _ < 100000; omega)).trans e'
theorem places_loop {e : Int32} {T f : Nat → Int32} {L : Nat → Nat} (hn : n ≤ 24) (hL : ∀ j, j < n → L j < 16) (hf : ∀ j, j < n → f j = nI (L j)) : ∀ (q k i : Nat) (h : am_H) (F f' : Nat → Int32), TA h e T F n f i f' → i + k = n → k < q → (∀ j, j < 16 → F j = nI ((mt L i).1 j)) → (∀ j, j < i → f' j = nI ((mt L i).2 j)) →
    ∃ h' F' f'', F_X6_findPlaces_33 q 64 (nI i) h = some h' ∧ TA h' e T F' n f n f'' ∧ Fr inT h h' ∧ (∀ j, j < n → f'' j = nI ((mt L n).2 j))
  | 0, k, i, h, F, f', M, h1, h2, h3, h4 => by omega
  | q + 1, 0, i, h, F, f', M, h1, h2, h3, h4 => by
    have ei : i = n := by omega
    subst ei
    rw [F_X6_findPlaces_33, M.gr.2.2.1, Option.bind_some, row_length M.2.2.2.1, Option.bind_some, if_pos (nI_le (Nat.le_refl _) (by omega))]
    exact ⟨h, F, f', rfl, M, Fr.rf, h4⟩
  | q + 1, k + 1, i, h, F, f', M, h1, h2, h3, h4 => by
    obtain ⟨ok, -⟩ := mt_ok hL i (by omega)
    obtain ⟨h', F', e', M', G, g⟩ := toFront_t (hL i (by omega)) ok.1 M h3
    obtain ⟨h'', e'', M'', G'⟩ := M'.addP (show i < 24 by omega) (nI (fnd (mt L i).1 (L i) 15 0))
    rw [F_X6_findPlaces_33, M.gr.2.2.1, Option.bind_some, row_length M.2.2.2.1, Option.bind_some, if_neg (nI_ge (by omega) (by omega)), M.gr.2.2.2.1, Option.bind_some, Option.bind_some, row_at M.2.2.2.1 (show i < n by omega), Option.bind_some, hf i (by omega), e', Option.bind_some, e'', Option.bind_some, nI_1]
    obtain ⟨h2', F2, f2, e2, M2, G2, g2⟩ := places_loop hn hL hf q k (i + 1) h'' F' _ M'' (by omega) (by omega) g (fun j hj => by
      show (if j = i then nI _ else f' j) = nI (if j = i then _ else (mt L i).2 j)
      by_cases z : j = i
      · rw [if_pos z, if_pos z]
      · rw [if_neg z, if_neg z]; exact h4 j (by omega))
    exact ⟨h2', F2, f2, e2, M2, (G.tr G' (T := inT) (fun _ z => z) (fun _ z => z)).tr G2 (fun _ z => z) (fun _ z => z), g2⟩
theorem front0_loop {e : Int32} {T f : Nat → Int32} {L : Nat → Nat} {m' : Nat} {f' : Nat → Int32} (hn : n ≤ 24) (hL : ∀ j, j < n → L j < 16) (hf : ∀ j, j < n → f j = nI (L j)) : ∀ (q k i : Nat) (h : am_H) (F : Nat → Int32), TA h e T F n f m' f' → i + k = 16 → k < q → (∀ j, j < i → F j = nI j) →
    ∃ h' F' f'', F_X6_findPlaces_2 q 64 (nI i) h = some h' ∧ TA h' e T F' n f n f'' ∧ Fr inT h h' ∧ (∀ j, j < n → f'' j = nI ((mt L n).2 j))
  | 0, k, i, h, F, M, h1, h2, h3 => by omega
  | q + 1, 0, i, h, F, M, h1, h2, h3 => by
    obtain ⟨h', e', M', G⟩ := M.empP
    rw [F_X6_findPlaces_2, M.gr.2.1, Option.bind_some, ln_ia M.2.2.1 (by decide), Option.bind_some, if_pos (nI_le (by omega) (by omega)), M.gr.2.2.2.1, Option.bind_some, e', Option.bind_some]
    obtain ⟨h2', F2, f2, e2, M2, G2, g2⟩ := places_loop hn hL hf am_F n 0 h' F f' M' (by omega) (by show _ < 100000; omega) (fun j hj => h3 j (by omega)) (fun j hj => by omega)
    exact ⟨h2', F2, f2, e2, M2, G.tr G2 (fun _ z => z) (fun _ z => z), g2⟩
  | q + 1, k + 1, i, h, F, M, h1, h2, h3 => by
    obtain ⟨h', e', M', G⟩ := M.setF (show i < 16 by omega) (nI i)
    rw [F_X6_findPlaces_2, M.gr.2.1, Option.bind_some, ln_ia M.2.2.1 (by decide), Option.bind_some, if_neg (nI_ge (by omega) (by omega)), Option.bind_some, e', Option.bind_some, nI_1]
    obtain ⟨h2', F2, f2, e2, M2, G2, g2⟩ := front0_loop hn hL hf q k (i + 1) h' _ M' (by omega) (by omega) (fun j hj => by
      by_cases z : j = i
      · rw [z, upd_self]
      · rw [upd_ne z]; exact h3 j (by omega))
    exact ⟨h2', F2, f2, e2, M2, G.tr G2 (fun _ z => z) (fun _ z => z), g2⟩
theorem lasts_loop {T F f' : Nat → Int32} {m' : Nat} (hT : ∀ j, j ≤ n → T j = nI (tT s n j)) : ∀ (q k i : Nat) (h : am_H) (e : Int32) (f : Nat → Int32), SgAt h a n s → TA h e T F (mI s n i) f m' f' → i + k = n + 1 → k < q → (tE s n < i → e = nI (tE s n)) → (∀ j, j < mI s n i → f j = nI (tL s n j)) →
    ∃ h' F' f'' f2, F_X6_squeeze_25 q 64 a (nI n) (nI i) h = some h' ∧ SgAt h' a n s ∧ TA h' (nI (tE s n)) T F' n f'' n f2 ∧ Fr inT h h' ∧ (∀ j, j < n → f'' j = nI (tL s n j)) ∧ (∀ j, j < n → f2 j = nI (tP s n j))
  | 0, k, i, h, e, f, r, M, h1, h2, h3, h4 => by omega
  | q + 1, 0, i, h, e, f, r, M, h1, h2, h3, h4 => by
    have hn := r.2.2.1
    have ei : i = n + 1 := by omega
    subst ei
    rw [mI_all] at M h4
    have ht := (tE_spec s n).1
    rw [h3 (by omega)] at M
    obtain ⟨h', F', f2, e', M', G, g⟩ := front0_loop (L := tL s n) hn (fun j hj => tL_lt r.2.2.2 hj) h4 am_F 16 0 h F M (by omega) (by show _ < 100000; omega) (fun j hj => by omega)
    refine ⟨h', F', f, f2, ?_, r.fr G inT_d, M', G, h4, g⟩
    rw [F_X6_squeeze_25, if_pos (nI_lt (by omega) (by omega))]
    unfold F_X6_findPlaces F_X6_findPlaces_b
    rw [M.1, Option.bind_some, show (0 : Int32) = nI 0 from rfl, e', Option.bind_some]
  | q + 1, k + 1, i, h, e, f, r, M, h1, h2, h3, h4 => by
    have hn := r.2.2.1
    have ht := tE_spec s n
    have hti := tT_le s n i (by omega)
    have hm := mI_le s n i
    rw [F_X6_squeeze_25, if_neg (nI_nlt (by omega) (by omega)), M.gr.1, Option.bind_some, il_ia M.2.1 (show i < 25 by omega) (by decide), Option.bind_some, hT i (by omega)]
    unfold F_X6_squeeze_66
    rw [nI_1]
    by_cases c : i = tE s n
    · rw [if_pos (by rw [(ht.2 i (by omega)).mpr c]; rfl)]
      obtain ⟨h', e', M', G⟩ := M.setE (nI i)
      rw [e', Option.bind_some]
      have em : mI s n (i + 1) = mI s n i := by rw [c]; exact mI_end s n
      obtain ⟨h2', F2, f2, f3, e2, r2, M2, G2, g2⟩ := lasts_loop hT q k (i + 1) h' _ f (r.fr G inT_d) (by rw [em]; exact M') (by omega) (by omega) (fun _ => by rw [c]) (by rw [em]; exact h4)
      exact ⟨h2', F2, f2, f3, e2, r2, M2, G.tr G2 (fun _ z => z) (fun _ z => z), g2⟩
    · have hz : ¬ tT s n i = 0 := fun z => c ((ht.2 i (by omega)).mp z)
      obtain ⟨m1, m2⟩ := mI_step s n i c
      have hmi : mI s n i < 24 := by
        have := mI_le s n (i + 1)
        have h7 : mI s n i ≤ n - 1 := by
          unfold mI
          have := ht.1
          split <;> omega
        have : 0 < n := by omega
        omega
      obtain ⟨h', e', M', G⟩ := M.addL hmi (nI (tL s n (mI s n i)))
      rw [if_neg (nI_ne0 (by omega) (by omega)), M.gr.2.2.1, Option.bind_some, Option.bind_some, il_ia M.2.1 (show i < 25 by omega) (by decide), Option.bind_some, hT i (by omega), show nI (tT s n i) - 1 = nI (tT s n i - 1) by rw [show (1 : Int32) = nI 1 from rfl, nI_subN (by omega)], r.at (show tT s n i - 1 < n by omega), Option.bind_some, ← m2, e', Option.bind_some]
      obtain ⟨h2', F2, f2, f3, e2, r2, M2, G2, g2⟩ := lasts_loop hT q k (i + 1) h' e _ (r.fr G inT_d) (by rw [m1]; exact M') (by omega) (by omega) (fun z => h3 (by omega)) (fun j hj => by
        show (if j = mI s n i then _ else f j) = _
        by_cases z : j = mI s n i
        · rw [if_pos z, z]
        · rw [if_neg z]; exact h4 j (by omega))
      exact ⟨h2', F2, f2, f3, e2, r2, M2, G.tr G2 (fun _ z => z) (fun _ z => z), g2⟩
theorem squeezeT_t {h : am_H} {e : Int32} {T F f f' : Nat → Int32} {m m' : Nat} (r : SgAt h a n s) (M : TA h e T F m f m' f') : ∃ h' T' F' f'' f2, F_X6_squeeze 64 a h = some h' ∧ SgAt h' a n s ∧ TA h' (nI (tE s n)) T' F' n f'' n f2 ∧ Fr inT h h' ∧ (∀ j, j < n → f'' j = nI (tL s n j)) ∧ (∀ j, j < n → f2 j = nI (tP s n j)) := by
  have hn := r.2.2.1
  obtain ⟨h1, T1, e1, r1, M1, G1, g1⟩ := sort_loop am_F (n + 1) 0 h T r M (by omega) (by show _ < 100000; omega) (fun j hj => by omega)
  obtain ⟨h2, e2, M2, G2⟩ := M1.empL
  have em : mI s n 0 = 0 := by unfold mI; rw [if_pos (Nat.zero_le _)]
  obtain ⟨h3, F3, f3, f4, e3, r3, M3, G3, g3⟩ := lasts_loop g1 am_F (n + 1) 0 h2 e f (r1.fr G2 inT_d) (by rw [em]; exact M2) (by omega) (by show _ < 100000; omega) (fun z => by omega) (fun j hj => by omega)
  refine ⟨h3, T1, F3, f3, f4, ?_, r3, M3, (G1.tr G2 (T := inT) (fun _ z => z) (fun _ z => z)).tr G3 (fun _ z => z) (fun _ z => z), g3⟩
  unfold F_X6_squeeze F_X6_squeeze_b F_X6_sort F_X6_sort_b
  rw [M.1, Option.bind_some, r.len, Option.bind_some, show (24 : Int32) = nI 24 from rfl, jmin (by omega) (by omega), Option.bind_some, show (if 24 < n then 24 else n) = n by split <;> omega, Option.bind_some, show (0 : Int32) = nI 0 from rfl, e1, Option.bind_some, M1.gr.2.2.1, Option.bind_some, e2, Option.bind_some]
  exact e3
end TX2
