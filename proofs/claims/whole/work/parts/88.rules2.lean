/-! RULES: the class's side -/
def LR (h : am_H) (a : Nat) (l : List Nat) : Prop := ∃ f, RowAt h a 24 l.length f ∧ ∀ j, j < l.length → f j = nI (gD l j)
theorem LR.fr {P : Nat → Prop} {h h' : am_H} {a : Nat} {l : List Nat} (r : LR h a l) (F : Fr P h h') (h1 : ¬ P a) (h2 : ¬ P (a + 1)) : LR h' a l := by
  obtain ⟨f, r, hf⟩ := r
  exact ⟨f, r.fr F h1 h2, hf⟩
theorem LR.len {h : am_H} {a : Nat} {l : List Nat} (r : LR h a l) : F_X4_length a h = some (nI l.length) := by
  obtain ⟨f, r, hf⟩ := r
  exact row_length r
theorem LR.le {h : am_H} {a : Nat} {l : List Nat} (r : LR h a l) : l.length ≤ 24 := by
  obtain ⟨f, r, hf⟩ := r
  exact r.2.1
theorem LR.at {h : am_H} {a i : Nat} {l : List Nat} (r : LR h a l) (hi : i < l.length) : F_X4_at a (nI i) h = some (nI (gD l i)) := by
  obtain ⟨f, r, hf⟩ := r
  rw [row_at r hi, hf i hi]
theorem LR.out {h : am_H} {a : Nat} {i : Int32} {l : List Nat} (r : LR h a l) (hi : ¬ vd l.length i) : F_X4_at a i h = some (-1) := by
  obtain ⟨f, r, hf⟩ := r
  rw [row_at_out r hi]
theorem LR.add {h : am_H} {a : Nat} {l : List Nat} (r : LR h a l) (hl : l.length < 24) (x : Nat) : ∃ h', F_X4_add a (nI x) h = some h' ∧ LR h' a (l ++ [x]) ∧ Fr (fun q => q = a ∨ q = a + 1) h h' := by
  obtain ⟨f, r, hf⟩ := r
  obtain ⟨h', e, r', G⟩ := row_add r hl (nI x)
  refine ⟨h', e, ⟨_, by rw [List.length_append]; exact r', fun j hj => ?_⟩, G⟩
  rw [List.length_append] at hj
  have hj : j < l.length + 1 := hj
  by_cases z : j = l.length
  · rw [z, upd_self, gD_at]
  · rw [upd_ne z, gD_app1 (by omega)]; exact hf j (by omega)
theorem LR.emp {h : am_H} {a : Nat} {l : List Nat} (r : LR h a l) : ∃ h', F_X4_empty a h = some h' ∧ LR h' a [] ∧ Fr (fun q => q = a ∨ q = a + 1) h h' := by
  obtain ⟨f, r, hf⟩ := r
  obtain ⟨h', e, r', G⟩ := row_empty r
  exact ⟨h', e, ⟨f, r', fun j hj => (by cases hj)⟩, G.mono (fun q z => Or.inl z)⟩
theorem LR.all {h : am_H} {a b : Nat} {l t : List Nat} (hab : b ≠ a ∧ b ≠ a + 1 ∧ b + 1 ≠ a) (r : LR h a l) (r2 : LR h b t) (hl : l.length + t.length ≤ 24) : ∃ h', F_X4_addPart a b (nI 0) (nI t.length) h = some h' ∧ LR h' a (l ++ t) ∧ Fr (fun q => q = a ∨ q = a + 1) h h' := by
  obtain ⟨f, r, hf⟩ := r
  obtain ⟨g, r2, hg⟩ := r2
  obtain ⟨h', f', e, r', g1, g2, G⟩ := row_addPart (i := 0) (e := t.length) (k := t.length) hab r r2 (by omega) (by omega) (by omega) (by omega) (by omega)
  refine ⟨h', e, ⟨f', by rw [List.length_append]; exact r', fun j hj => ?_⟩, G⟩
  rw [List.length_append] at hj
  by_cases z : j < l.length
  · rw [g1 j z, gD_app1 z, hf j z]
  · obtain ⟨k, rfl⟩ : ∃ k, j = l.length + k := ⟨j - l.length, by omega⟩
    rw [g2 k (by omega), gD_app2, Nat.zero_add, hg k (by omega)]
theorem become_t {a b cap cb n m : Nat} {f g : Nat → Int32} {h : am_H} (hab : b ≠ a ∧ b ≠ a + 1 ∧ b + 1 ≠ a) (r : RowAt h a cap n f) (r2 : RowAt h b cb m g) (hm : m ≤ cap) : ∃ h' f', F_X4_become a b h = some h' ∧ RowAt h' a cap m f' ∧ (∀ j, j < m → f' j = g j) ∧ Fr (fun q => q = a ∨ q = a + 1) h h' := by
  have hr := r2.2
  obtain ⟨h1, e1, r1, G1⟩ := row_empty r
  have r2' := r2.fr G1 (by omega) (by omega)
  obtain ⟨h', f', e, r', g1, g2, G⟩ := row_addPart (i := 0) (e := m) (k := m) hab r1 r2' (by omega) (by omega) (by omega) (by omega) (by omega)
  rw [Nat.zero_add] at r'
  refine ⟨h', f', ?_, r', fun j hj => by have := g2 j hj; rw [Nat.zero_add] at this; exact this, G1.tr G (fun q z => Or.inl z) (fun q z => z)⟩
  unfold F_X4_become F_X4_become_b
  rw [r.1.1, Option.bind_some, e1, Option.bind_some, r2'.gi, Option.bind_some, show (0 : Int32) = nI 0 from rfl, e, Option.bind_some]
theorem LR.bec {h : am_H} {a b : Nat} {l t : List Nat} (hab : b ≠ a ∧ b ≠ a + 1 ∧ b + 1 ≠ a) (r : LR h a l) (r2 : LR h b t) : ∃ h', F_X4_become a b h = some h' ∧ LR h' a t ∧ Fr (fun q => q = a ∨ q = a + 1) h h' := by
  have hl := r2.le
  obtain ⟨f, r, hf⟩ := r
  obtain ⟨g, r2, hg⟩ := r2
  obtain ⟨h', f', e, r', g1, G⟩ := become_t hab r r2 hl
  exact ⟨h', e, ⟨f', r', fun j hj => by rw [g1 j hj, hg j hj]⟩, G⟩
theorem LR.times {h : am_H} {a x : Nat} {l : List Nat} (r : LR h a l) (hl : ∀ y ∈ l, y < 1000) (hx : x < 1000) : F_X4_times a (nI x) h = some (nI (cnL x l)) := by
  obtain ⟨f, r, hf⟩ := r
  rw [row_times r]
  unfold cnL
  rw [cntN_cong (q := fun j => gD l j == x)]
  intro j hj
  have := hl _ (gD_mem hj)
  rw [hf j hj]
  by_cases c : gD l j = x
  · rw [c, show (x == x) = true by simp]; simp
  · rw [show (gD l j == x) = false by simpa using c]
    have : ¬ nI (gD l j) = nI x := fun z => c ((nI_eq (by omega) (by omega)).mp z)
    simpa using this
def UA (h : am_H) (n : Nat) (fo la : Int32) (l sp : List Nat) (R : Nat → List Nat) : Prop := am_obj 30 5 h = some [.ref 31, .ref 33, .ref 34, .int (nI n), .int fo, .int la] ∧ LR h 31 l ∧ LR h 34 sp ∧ (∃ g, am_ra 4 33 h = some (12, g) ∧ ∀ k, k < 12 → g k = 36 + 2 * k) ∧ ∀ k, k < 12 → LR h (36 + 2 * k) (R k)
abbrev inU (q : Nat) : Prop := 30 ≤ q ∧ q < 60
theorem inU_d (q : Nat) (h : 116 ≤ q) : ¬ inU q := by unfold inU; omega
section UX
variable {h h' : am_H} {n : Nat} {fo la : Int32} {l sp : List Nat} {R : Nat → List Nat}
theorem UA.gr (U : UA h n fo la l sp R) : am_gr 5 0 30 h = some 31 ∧ am_gr 5 1 30 h = some 33 ∧ am_gr 5 2 30 h = some 34 ∧ am_gi 5 3 30 h = some (nI n) ∧ am_gi 5 4 30 h = some fo ∧ am_gi 5 5 30 h = some la := by
  unfold am_gr am_gi
  rw [U.1]
  exact ⟨rfl, rfl, rfl, rfl, rfl, rfl⟩
theorem UA.al (U : UA h n fo la l sp R) {k : Nat} (hk : k < 12) : am_al 4 33 (nI k) h = some (36 + 2 * k) := by
  obtain ⟨g, e, hg⟩ := U.2.2.2.1
  rw [al_ra e hk (by decide), hg k hk]
theorem UA.ln (U : UA h n fo la l sp R) : am_ln 33 h = some (nI 12) := by
  obtain ⟨g, e, hg⟩ := U.2.2.2.1
  exact ln_ra e (by decide)
theorem UA.obj (U : UA h n fo la l sp R) {n' : Nat} {fo' la' : Int32} (G : Fr (fun q => q = 30) h h') (o : am_obj 30 5 h' = some [.ref 31, .ref 33, .ref 34, .int (nI n'), .int fo', .int la']) : UA h' n' fo' la' l sp R := by
  obtain ⟨g, e, hg⟩ := U.2.2.2.1
  exact ⟨o, U.2.1.fr G (by omega) (by omega), U.2.2.1.fr G (by omega) (by omega), ⟨g, (ra_at (G.2.2 _ (by omega))).trans e, hg⟩, fun k hk => (U.2.2.2.2 k hk).fr G (by omega) (by omega)⟩
theorem UA.p3 (U : UA h n fo la l sp R) (x : Nat) : ∃ h', am_pi 5 3 30 (nI x) h = some h' ∧ UA h' x fo la l sp R ∧ Fr inU h h' := by
  obtain ⟨h', e, o, G⟩ := ob_set (k := 3) U.1 (show 3 < 6 by decide) (nI x)
  exact ⟨h', e, U.obj G o, G.mono (fun q z => by unfold inU; omega)⟩
theorem UA.p4 (U : UA h n fo la l sp R) (x : Int32) : ∃ h', am_pi 5 4 30 x h = some h' ∧ UA h' n x la l sp R ∧ Fr inU h h' := by
  obtain ⟨h', e, o, G⟩ := ob_set (k := 4) U.1 (show 4 < 6 by decide) x
  exact ⟨h', e, U.obj G o, G.mono (fun q z => by unfold inU; omega)⟩
theorem UA.p5 (U : UA h n fo la l sp R) (x : Int32) : ∃ h', am_pi 5 5 30 x h = some h' ∧ UA h' n fo x l sp R ∧ Fr inU h h' := by
  obtain ⟨h', e, o, G⟩ := ob_set (k := 5) U.1 (show 5 < 6 by decide) x
  exact ⟨h', e, U.obj G o, G.mono (fun q z => by unfold inU; omega)⟩
theorem UA.row (U : UA h n fo la l sp R) {l' : List Nat} (G : Fr (fun q => q = 31 ∨ q = 31 + 1) h h') (r : LR h' 31 l') : UA h' n fo la l' sp R := by
  obtain ⟨g, e, hg⟩ := U.2.2.2.1
  exact ⟨(obj_at (G.2.2 _ (by omega))).trans U.1, r, U.2.2.1.fr G (by omega) (by omega), ⟨g, (ra_at (G.2.2 _ (by omega))).trans e, hg⟩, fun k hk => (U.2.2.2.2 k hk).fr G (by omega) (by omega)⟩
theorem UA.spr (U : UA h n fo la l sp R) {l' : List Nat} (G : Fr (fun q => q = 34 ∨ q = 34 + 1) h h') (r : LR h' 34 l') : UA h' n fo la l l' R := by
  obtain ⟨g, e, hg⟩ := U.2.2.2.1
  exact ⟨(obj_at (G.2.2 _ (by omega))).trans U.1, U.2.1.fr G (by omega) (by omega), r, ⟨g, (ra_at (G.2.2 _ (by omega))).trans e, hg⟩, fun k hk => (U.2.2.2.2 k hk).fr G (by omega) (by omega)⟩
theorem UA.part (U : UA h n fo la l sp R) {k : Nat} (hk : k < 12) {l' : List Nat} (G : Fr (fun q => q = 36 + 2 * k ∨ q = 36 + 2 * k + 1) h h') (r : LR h' (36 + 2 * k) l') : UA h' n fo la l sp (fun j => if j = k then l' else R j) := by
  obtain ⟨g, e, hg⟩ := U.2.2.2.1
  refine ⟨(obj_at (G.2.2 _ (by omega))).trans U.1, U.2.1.fr G (by omega) (by omega), U.2.2.1.fr G (by omega) (by omega), ⟨g, (ra_at (G.2.2 _ (by omega))).trans e, hg⟩, fun j hj => ?_⟩
  show LR h' (36 + 2 * j) (if j = k then l' else R j)
  by_cases z : j = k
  · rw [if_pos z, z]; exact r
  · rw [if_neg z]; exact (U.2.2.2.2 j hj).fr G (by omega) (by omega)
theorem UA.timesOf_loop (U : UA h n fo la l sp R) (hl : ∀ x ∈ l, x < 1000) {a b : Nat} (ha : a < 1000) (hb : b < 1000) : ∀ (q c : Nat) (l1 l2 : List Nat), l1 ++ l2 = l → l2.length < q → F_X5_timesOf_5 q 30 (nI a) (nI b) (nI c) (nI l1.length) h = some (nI (c + twL a b l2))
  | 0, c, l1, l2, h1, h2 => by omega
  | q + 1, c, l1, [], h1, h2 => by
    have hle := U.2.1.le
    have hL : l.length = l1.length := by rw [← h1]; simp
    rw [F_X5_timesOf_5, U.gr.1, Option.bind_some, U.2.1.len, Option.bind_some, nI_1, if_pos (nI_le (by omega) (by omega))]
    rfl
  | q + 1, c, l1, [x], h1, h2 => by
    have hle := U.2.1.le
    have hL : l.length = l1.length + 1 := by rw [← h1]; simp
    rw [F_X5_timesOf_5, U.gr.1, Option.bind_some, U.2.1.len, Option.bind_some, nI_1, if_pos (nI_le (by omega) (by omega))]
    rfl
  | q + 1, c, l1, x :: y :: t, h1, h2 => by
    have hle := U.2.1.le
    have hL : l.length = l1.length + (t.length + 1 + 1) := by rw [← h1]; simp
    have h2' : t.length + 1 + 1 < q + 1 := h2
    have ex : gD l l1.length = x := by rw [← h1]; exact gD_at
    have ey : gD l (l1.length + 1) = y := by rw [← h1]; exact gD_at1
    have hx : x < 1000 := hl x (by rw [← h1]; simp)
    have hy : y < 1000 := hl y (by rw [← h1]; simp)
    have i1 := UA.timesOf_loop U hl ha hb q (c + 1) (l1 ++ [x, y]) t (by rw [← h1]; simp) (by omega)
    have i2 := UA.timesOf_loop U hl ha hb q c (l1 ++ [x]) (y :: t) (by rw [← h1]; simp) (by show t.length + 1 < q; omega)
    rw [List.length_append] at i1 i2
    have i1' : F_X5_timesOf_5 q 30 (nI a) (nI b) (nI (c + 1)) (nI (l1.length + 1 + 1)) h = some (nI (c + 1 + twL a b t)) := i1
    have i2' : F_X5_timesOf_5 q 30 (nI a) (nI b) (nI c) (nI (l1.length + 1)) h = some (nI (c + twL a b (y :: t))) := i2
    rw [F_X5_timesOf_5, U.gr.1, Option.bind_some, U.2.1.len, Option.bind_some, nI_1, if_neg (nI_ge (by omega) (by omega)), Option.bind_some, U.2.1.at (by omega), Option.bind_some, ex]
    unfold F_X5_timesOf_53 twL
    rw [nI_1, nI_1]
    try rw [nI_1]
    by_cases c1 : x = a
    · rw [if_pos (by rw [c1]), Option.bind_some, U.2.1.at (by omega), Option.bind_some, ey]
      by_cases c2 : y = b
      · rw [if_pos (by rw [c2]), if_pos ⟨c1, c2⟩, i1']
        congr 2
        omega
      · rw [if_neg (fun z => c2 ((nI_eq (by omega) (by omega)).mp z)), if_neg (show ¬ (x = a ∧ y = b) from fun z => c2 z.2)]
        exact i2'
    · rw [if_neg (fun z => c1 ((nI_eq (by omega) (by omega)).mp z)), if_neg (show ¬ (x = a ∧ y = b) from fun z => c1 z.1)]
      exact i2'
theorem UA.timesOf (U : UA h n fo la l sp R) (hl : ∀ x ∈ l, x < 1000) {a b : Nat} (ha : a < 1000) (hb : b < 1000) : F_X5_timesOf 30 (nI a) (nI b) h = some (nI (twL a b l)) := by
  have hle := U.2.1.le
  unfold F_X5_timesOf F_X5_timesOf_b
  rw [U.1, Option.bind_some]
  have := U.timesOf_loop hl ha hb am_F 0 [] l rfl (by show _ < 100000; omega)
  rw [Nat.zero_add] at this
  exact this
end UX
/-! the pair that is found -/
theorem bp_cls {V W : Nat → Nat → Prop} {l : List Nat} {M a b x y : Nat} (hs : bpOk V l (M, a, b)) (hW : ∀ u v, W u v ↔ (V u v ∨ (u = x ∧ v = y))) : (M < twL x y l → bpOk W l (twL x y l, x, y)) ∧ (twL x y l = M → 1 < M → (x < a ∨ (x = a ∧ y < b)) → bpOk W l (twL x y l, x, y)) ∧ (¬ M < twL x y l → ¬ (twL x y l = M ∧ 1 < M ∧ (x < a ∨ (x = a ∧ y < b))) → bpOk W l (M, a, b)) := by
  obtain ⟨s1, s2⟩ := hs
  have s1 : ∀ u v, V u v → twL u v l ≤ M := s1
  have s2 : M = 1 ∨ (1 < M ∧ twL a b l = M ∧ V a b ∧ ∀ u v, V u v → (u < a ∨ (u = a ∧ v < b)) → twL u v l < M) := s2
  have m1 : 1 ≤ M := by rcases s2 with e | ⟨a1, -⟩ <;> omega
  refine ⟨fun c => ⟨fun u v h => ?_, Or.inr ⟨by show 1 < twL x y l; omega, rfl, (hW x y).mpr (Or.inr ⟨rfl, rfl⟩), fun u v h h' => ?_⟩⟩, fun c c2 c3 => ⟨fun u v h => ?_, Or.inr ⟨by show 1 < twL x y l; omega, rfl, (hW x y).mpr (Or.inr ⟨rfl, rfl⟩), fun u v h h' => ?_⟩⟩, fun c c2 => ⟨fun u v h => ?_, s2.imp id (fun ⟨a1, a2, a3, a4⟩ => ⟨a1, a2, (hW a b).mpr (Or.inl a3), fun u v h h' => ?_⟩)⟩⟩
  · show twL u v l ≤ twL x y l
    rcases (hW u v).mp h with z | ⟨z1, z2⟩
    · have := s1 u v z; omega
    · rw [z1, z2]; exact Nat.le_refl _
  · show twL u v l < twL x y l
    have h' : u < x ∨ (u = x ∧ v < y) := h'
    rcases (hW u v).mp h with z | ⟨z1, z2⟩
    · have := s1 u v z; omega
    · omega
  · show twL u v l ≤ twL x y l
    rcases (hW u v).mp h with z | ⟨z1, z2⟩
    · have := s1 u v z; omega
    · rw [z1, z2]; exact Nat.le_refl _
  · show twL u v l < twL x y l
    have h' : u < x ∨ (u = x ∧ v < y) := h'
    rcases (hW u v).mp h with z | ⟨z1, z2⟩
    · rcases s2 with e | ⟨a1, a2, a3, a4⟩
      · omega
      · have := a4 u v z (by omega)
        omega
    · omega
  · show twL u v l ≤ M
    rcases (hW u v).mp h with z | ⟨z1, z2⟩
    · exact s1 u v z
    · rw [z1, z2]; omega
  · show twL u v l < M
    rcases (hW u v).mp h with z | ⟨z1, z2⟩
    · exact a4 u v z h'
    · have h' : u < a ∨ (u = a ∧ v < b) := h'
      rw [z1, z2] at h' ⊢
      have : ¬ twL x y l = M := fun q => c2 ⟨q, a1, h'⟩
      omega
theorem pair_77 {K : Nat → Int32 → Int32 → am_H → Option (Int32 × am_H)} {h : am_H} {n i M x y t : Nat} {fo la : Int32} {l sp : List Nat} {R : Nat → List Nat} (U : UA h n fo la l sp R) (hM : M < 1000) (ht : t < 1000) (ah : Bool) : ∃ h' fo' la', F_X5_findPair_77 K 30 (nI M) (nI i) (nI x) (nI y) (nI t) (bI ah) h = K 30 (nI (if M < t ∨ (t = M ∧ 1 < M ∧ ah = true) then t else M)) (nI (i + 1)) h' ∧ UA h' n fo' la' l sp R ∧ Fr inU h h' ∧ (if M < t ∨ (t = M ∧ 1 < M ∧ ah = true) then fo' = nI x ∧ la' = nI y else fo' = fo ∧ la' = la) := by
  obtain ⟨h1, e1, U1, G1⟩ := U.p4 (nI x)
  obtain ⟨h2, e2, U2, G2⟩ := U1.p5 (nI y)
  have set : F_X5_findPair_101 K 30 (nI i) (nI x) (nI y) (nI t) h = K 30 (nI t) (nI (i + 1)) h2 := by
    unfold F_X5_findPair_101 F_X5_findPair_115
    rw [e1, Option.bind_some, e2, Option.bind_some, nI_1]
  have skip : F_X5_findPair_115 K 30 (nI M) (nI i) h = K 30 (nI M) (nI (i + 1)) h := by
    unfold F_X5_findPair_115
    rw [nI_1]
  unfold F_X5_findPair_77
  by_cases c : M < t
  · rw [if_pos (nI_lt c (by omega)), set]
    exact ⟨h2, _, _, by rw [if_pos (Or.inl c)], U2, G1.tr G2 (fun _ z => z) (fun _ z => z), by rw [if_pos (Or.inl c)]; exact ⟨rfl, rfl⟩⟩
  rw [if_neg (nI_nlt (by omega) (by omega))]
  by_cases c2 : t = M
  · rw [if_pos (by rw [c2])]
    by_cases c3 : 1 < M
    · rw [if_neg (show ¬ nI M ≤ (1 : Int32) from nI_ge (a := 1) c3 (by omega))]
      cases ah with
      | false =>
        rw [if_pos (show bI false = 0 from rfl), skip]
        have c4 : ¬ (M < t ∨ (t = M ∧ 1 < M ∧ false = true)) := fun z => z.elim (fun z => c z) (fun z => by cases z.2.2)
        exact ⟨h, fo, la, by rw [if_neg c4], U, Fr.rf, by rw [if_neg c4]; exact ⟨rfl, rfl⟩⟩
      | true =>
        rw [if_neg (show ¬ bI true = 0 by decide), set]
        have c4 : M < t ∨ (t = M ∧ 1 < M ∧ true = true) := Or.inr ⟨c2, c3, rfl⟩
        exact ⟨h2, _, _, by rw [if_pos c4], U2, G1.tr G2 (fun _ z => z) (fun _ z => z), by rw [if_pos c4]; exact ⟨rfl, rfl⟩⟩
    · rw [if_pos (show nI M ≤ (1 : Int32) from nI_le (b := 1) (by omega) (by decide)), skip]
      have c4 : ¬ (M < t ∨ (t = M ∧ 1 < M ∧ ah = true)) := fun z => z.elim (fun z => c z) (fun z => c3 z.2.1)
      exact ⟨h, fo, la, by rw [if_neg c4], U, Fr.rf, by rw [if_neg c4]; exact ⟨rfl, rfl⟩⟩
  · rw [if_neg (fun z => c2 ((nI_eq (by omega) (by omega)).mp z)), skip]
    have c4 : ¬ (M < t ∨ (t = M ∧ 1 < M ∧ ah = true)) := fun z => z.elim (fun z => c z) (fun z => c2 z.1)
    exact ⟨h, fo, la, by rw [if_neg c4], U, Fr.rf, by rw [if_neg c4]; exact ⟨rfl, rfl⟩⟩
def vis (l : List Nat) (i u v : Nat) : Prop := ∃ j, j < i ∧ j + 1 < l.length ∧ gD l j = u ∧ gD l (j + 1) = v
theorem pair_loop {n : Nat} {l sp : List Nat} {R : Nat → List Nat} (hl : ∀ x ∈ l, x < 1000) : ∀ (q k i M a b : Nat) (h : am_H) (fo la : Int32), UA h n fo la l sp R → (k = 0 ∨ i + 1 + k = l.length) → l.length ≤ i + 1 + k → i ≤ 24 → k < q → bpOk (vis l i) l (M, a, b) → (1 < M → fo = nI a ∧ la = nI b) → M < 1000 → a < 1000 → b < 1000 →
    ∃ h' fo' la' M' a' b', F_X5_findPair_4 q 30 (nI M) (nI i) h = some (bI (decide (1 < M')), h') ∧ UA h' n fo' la' l sp R ∧ Fr inU h h' ∧ bpOk (vis l l.length) l (M', a', b') ∧ (1 < M' → fo' = nI a' ∧ la' = nI b')
  | 0, k, i, M, a, b, h, fo, la, U, h1, h2, hi, h3, h4, h5, hM, ha, hb => by omega
  | q + 1, 0, i, M, a, b, h, fo, la, U, h1, h2, hi, h3, h4, h5, hM, ha, hb => by
    have hle := U.2.1.le
    refine ⟨h, fo, la, M, a, b, ?_, U, Fr.rf, ?_, h5⟩
    · rw [F_X5_findPair_4, U.gr.1, Option.bind_some, U.2.1.len, Option.bind_some, nI_1, if_pos (nI_le (by omega) (by omega))]
      unfold F_X5_findPair_131
      by_cases c : 1 < M
      · rw [if_neg (show ¬ nI M ≤ (1 : Int32) from nI_ge (a := 1) c (by omega)), decide_eq_true c]; rfl
      · rw [if_pos (show nI M ≤ (1 : Int32) from nI_le (b := 1) (by omega) (by decide)), decide_eq_false c]; rfl
    · obtain ⟨s1, s2⟩ := h4
      have hv : ∀ u v, vis l l.length u v → vis l i u v := fun u v ⟨j, j1, j2, j3⟩ => ⟨j, by omega, j2, j3⟩
      have hv2 : ∀ u v, vis l i u v → vis l l.length u v := fun u v ⟨j, j1, j2, j3⟩ => ⟨j, by omega, j2, j3⟩
      exact ⟨fun u v h => s1 u v (hv u v h), s2.imp id (fun ⟨a1, a2, a3, a4⟩ => ⟨a1, a2, hv2 _ _ a3, fun u v h => a4 u v (hv u v h)⟩)⟩
  | q + 1, k + 1, i, M, a, b, h, fo, la, U, h1, h2, hi, h3, h4, h5, hM, ha, hb => by
    have hle := U.2.1.le
    have hL : i + 1 + (k + 1) = l.length := by omega
    have hx := hl _ (gD_mem (show i < l.length by omega))
    have hy := hl _ (gD_mem (show i + 1 < l.length by omega))
    have htw := tw_le (gD l i) (gD l (i + 1)) l
    rw [F_X5_findPair_4, U.gr.1, Option.bind_some, U.2.1.len, Option.bind_some, nI_1, if_neg (nI_ge (by omega) (by omega)), Option.bind_some, U.2.1.at (by omega), Option.bind_some, Option.bind_some, U.2.1.at (by omega), Option.bind_some, U.timesOf hl hx hy, Option.bind_some, U.gr.2.2.2.2.1, Option.bind_some, Option.bind_some, U.gr.2.2.2.2.2, Option.bind_some]
    have key : ∃ ah : Bool, (1 < M → (ah = true ↔ (gD l i < a ∨ (gD l i = a ∧ gD l (i + 1) < b)))) ∧ (if nI (gD l i) < fo then F_X5_findPair_72 (F_X5_findPair_4 q) 30 (nI M) (nI i) (nI (gD l i)) (nI (gD l (i + 1))) (nI (twL (gD l i) (gD l (i + 1)) l)) h else if nI (gD l i) = fo then (if la ≤ nI (gD l (i + 1)) then F_X5_findPair_76 (F_X5_findPair_4 q) 30 (nI M) (nI i) (nI (gD l i)) (nI (gD l (i + 1))) (nI (twL (gD l i) (gD l (i + 1)) l)) h else F_X5_findPair_72 (F_X5_findPair_4 q) 30 (nI M) (nI i) (nI (gD l i)) (nI (gD l (i + 1))) (nI (twL (gD l i) (gD l (i + 1)) l)) h) else F_X5_findPair_76 (F_X5_findPair_4 q) 30 (nI M) (nI i) (nI (gD l i)) (nI (gD l (i + 1))) (nI (twL (gD l i) (gD l (i + 1)) l)) h) = F_X5_findPair_77 (F_X5_findPair_4 q) 30 (nI M) (nI i) (nI (gD l i)) (nI (gD l (i + 1))) (nI (twL (gD l i) (gD l (i + 1)) l)) (bI ah) h := by
      unfold F_X5_findPair_72 F_X5_findPair_76
      by_cases c1 : nI (gD l i) < fo
      · refine ⟨true, fun z => ⟨fun _ => ?_, fun _ => rfl⟩, by rw [if_pos c1]; rfl⟩
        rw [(h5 z).1] at c1
        exact Or.inl ((nI_ltI (by omega) (by omega)).mp c1)
      · by_cases c2 : nI (gD l i) = fo
        · by_cases c3 : la ≤ nI (gD l (i + 1))
          · refine ⟨false, fun z => ⟨fun q => (by cases q), fun q => ?_⟩, by rw [if_neg c1, if_pos c2, if_pos c3]; rfl⟩
            rw [(h5 z).1] at c1 c2
            rw [(h5 z).2] at c3
            have d1 := (nI_eq (by omega) (by omega)).mp c2
            have d2 := (nI_leI (by omega) (by omega)).mp c3
            omega
          · refine ⟨true, fun z => ⟨fun _ => ?_, fun _ => rfl⟩, by rw [if_neg c1, if_pos c2, if_neg c3]; rfl⟩
            rw [(h5 z).1] at c2
            rw [(h5 z).2] at c3
            have d1 := (nI_eq (by omega) (by omega)).mp c2
            have d2 : ¬ b ≤ gD l (i + 1) := fun q => c3 (nI_le q (by omega))
            exact Or.inr ⟨d1, by omega⟩
        · refine ⟨false, fun z => ⟨fun q => (by cases q), fun q => ?_⟩, by rw [if_neg c1, if_neg c2]; rfl⟩
          rw [(h5 z).1] at c1 c2
          have d1 : ¬ gD l i = a := fun q => c2 (by rw [q])
          have d2 : ¬ gD l i < a := fun q => c1 (nI_lt q (by omega))
          omega
    obtain ⟨ah, k1, k2⟩ := key
    rw [k2]
    obtain ⟨h', fo', la', e, U', G, g⟩ := pair_77 (K := F_X5_findPair_4 q) (i := i) (x := gD l i) (y := gD l (i + 1)) (t := twL (gD l i) (gD l (i + 1)) l) U hM (by omega) ah
    rw [e]
    have hW : ∀ u v, vis l (i + 1) u v ↔ (vis l i u v ∨ (u = gD l i ∧ v = gD l (i + 1))) := fun u v => by
      constructor
      · rintro ⟨j, j1, j2, j3, j4⟩
        by_cases z : j = i
        · rw [z] at j3 j4; exact Or.inr ⟨j3.symm, j4.symm⟩
        · exact Or.inl ⟨j, by omega, j2, j3, j4⟩
      · rintro (⟨j, j1, j2, j3⟩ | ⟨z1, z2⟩)
        · exact ⟨j, by omega, j2, j3⟩
        · exact ⟨i, by omega, by omega, z1.symm, z2.symm⟩
    obtain ⟨w1, w2, w3⟩ := bp_cls h4 hW
    by_cases c : M < twL (gD l i) (gD l (i + 1)) l ∨ (twL (gD l i) (gD l (i + 1)) l = M ∧ 1 < M ∧ ah = true)
    · rw [if_pos c] at g ⊢
      have ok : bpOk (vis l (i + 1)) l (twL (gD l i) (gD l (i + 1)) l, gD l i, gD l (i + 1)) := by
        rcases c with c | ⟨c, c', c''⟩
        · exact w1 c
        · exact w2 c c' ((k1 c').mp c'')
      obtain ⟨h2', fo2, la2, M2, a2, b2, e2, U2, G2, g2⟩ := pair_loop hl q k (i + 1) _ _ _ h' fo' la' U' (by omega) (by omega) (by omega) (by omega) ok (fun _ => g) (by omega) hx hy
      exact ⟨h2', fo2, la2, M2, a2, b2, e2, U2, G.tr G2 (fun _ z => z) (fun _ z => z), g2⟩
    · rw [if_neg c] at g ⊢
      have ok : bpOk (vis l (i + 1)) l (M, a, b) := w3 (fun z => c (Or.inl z)) (fun z => c (Or.inr ⟨z.1, z.2.1, (k1 z.2.1).mpr z.2.2⟩))
      obtain ⟨h2', fo2, la2, M2, a2, b2, e2, U2, G2, g2⟩ := pair_loop hl q k (i + 1) M a b h' fo' la' U' (by omega) (by omega) (by omega) (by omega) ok (fun z => by rw [g.1, g.2]; exact h5 z) hM ha hb
      exact ⟨h2', fo2, la2, M2, a2, b2, e2, U2, G.tr G2 (fun _ z => z) (fun _ z => z), g2⟩
theorem findPair_t {h : am_H} {m n : Nat} {fo la : Int32} {l sp : List Nat} {R : Nat → List Nat} (U : UA h m fo la l sp R) (hl : ∀ x ∈ l, x < 16 + n) (hn : n < 100) : ∃ h' fo' la', F_X5_findPair 30 h = some (bI (decide (1 < (bp l n).1)), h') ∧ UA h' m fo' la' l sp R ∧ Fr inU h h' ∧ (1 < (bp l n).1 → fo' = nI (bp l n).2.1 ∧ la' = nI (bp l n).2.2) := by
  have hle := U.2.1.le
  obtain ⟨h', fo', la', M', a', b', e, U', G, g1, g2⟩ := pair_loop (fun x hx => by have := hl x hx; omega) am_F (l.length - 1) 0 1 0 0 h fo la U (by omega) (by omega) (by omega) (by show _ < 100000; omega) ⟨fun u v ⟨j, hj, _⟩ => by omega, Or.inl rfl⟩ (fun z => by omega) (by omega) (by omega) (by omega)
  obtain ⟨u1, u2⟩ := bp_uniq g1 (bpG_ok l (16 + n) (16 + n)) (fun x y hxy => by
    obtain ⟨j, j1, j2, j3⟩ := tw_pos x y l hxy
    exact ⟨j, by omega, j1, j2, j3⟩) (fun x y hxy => tw_in hl hxy)
  have u1 : M' = (bp l n).1 := u1
  refine ⟨h', fo', la', ?_, U', G, fun z => ?_⟩
  · unfold F_X5_findPair F_X5_findPair_b
    rw [U.1, Option.bind_some, ← u1]
    exact e
  · have hz : 1 < M' := by omega
    have e2 : (a', b') = (bp l n).2 := u2 hz
    have := g2 hz
    rw [← e2]
    exact this
