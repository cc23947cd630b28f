/-! ODDS: the class's side -/
def OA (h : am_H) (O : Nat → Int32) (lo hi po m : Nat) (g : Nat → Nat) : Prop := am_obj 60 3 h = some [.ref 61, .ref 62, .int (nI lo), .int (nI hi), .int (nI po)] ∧ am_ia 0 61 h = some (16, O) ∧ ∃ f, RowAt h 62 256 m f ∧ ∀ j, j < m → f j = nI (g j)
abbrev inO (q : Nat) : Prop := 60 ≤ q ∧ q < 64
theorem inO_d (q : Nat) (h : 116 ≤ q) : ¬ inO q := by unfold inO; omega
section OX
variable {h : am_H} {O : Nat → Int32} {lo hi po m : Nat} {g : Nat → Nat}
theorem OA.gr (M : OA h O lo hi po m g) : am_gr 3 0 60 h = some 61 ∧ am_gr 3 1 60 h = some 62 ∧ am_gi 3 2 60 h = some (nI lo) ∧ am_gi 3 3 60 h = some (nI hi) ∧ am_gi 3 4 60 h = some (nI po) := by
  unfold am_gr am_gi
  rw [M.1]
  exact ⟨rfl, rfl, rfl, rfl, rfl⟩
theorem OA.p2 (M : OA h O lo hi po m g) (x : Nat) : ∃ h', am_pi 3 2 60 (nI x) h = some h' ∧ OA h' O x hi po m g ∧ Fr inO h h' := by
  obtain ⟨h', e, o, G⟩ := ob_set (k := 2) M.1 (show 2 < 5 by decide) (nI x)
  obtain ⟨f, r, hf⟩ := M.2.2
  exact ⟨h', e, ⟨o, (ia_at (G.2.2 _ (by omega))).trans M.2.1, f, r.fr G (by omega) (by omega), hf⟩, G.mono (fun q z => by unfold inO; omega)⟩
theorem OA.p3 (M : OA h O lo hi po m g) (x : Nat) : ∃ h', am_pi 3 3 60 (nI x) h = some h' ∧ OA h' O lo x po m g ∧ Fr inO h h' := by
  obtain ⟨h', e, o, G⟩ := ob_set (k := 3) M.1 (show 3 < 5 by decide) (nI x)
  obtain ⟨f, r, hf⟩ := M.2.2
  exact ⟨h', e, ⟨o, (ia_at (G.2.2 _ (by omega))).trans M.2.1, f, r.fr G (by omega) (by omega), hf⟩, G.mono (fun q z => by unfold inO; omega)⟩
theorem OA.p4 (M : OA h O lo hi po m g) (x : Nat) : ∃ h', am_pi 3 4 60 (nI x) h = some h' ∧ OA h' O lo hi x m g ∧ Fr inO h h' := by
  obtain ⟨h', e, o, G⟩ := ob_set (k := 4) M.1 (show 4 < 5 by decide) (nI x)
  obtain ⟨f, r, hf⟩ := M.2.2
  exact ⟨h', e, ⟨o, (ia_at (G.2.2 _ (by omega))).trans M.2.1, f, r.fr G (by omega) (by omega), hf⟩, G.mono (fun q z => by unfold inO; omega)⟩
theorem OA.add (M : OA h O lo hi po m g) (hm : m < 256) (b : Nat) : ∃ h', F_X4_add 62 (nI b) h = some h' ∧ OA h' O lo hi po (m + 1) (updN g m b) ∧ Fr inO h h' := by
  obtain ⟨f, r, hf⟩ := M.2.2
  obtain ⟨h', e, r', G⟩ := row_add r hm (nI b)
  refine ⟨h', e, ⟨(obj_at (G.2.2 _ (by omega))).trans M.1, (ia_at (G.2.2 _ (by omega))).trans M.2.1, _, r', fun j hj => ?_⟩, G.mono (fun q z => by unfold inO; omega)⟩
  show (if j = m then nI b else f j) = nI (if j = m then b else g j)
  by_cases z : j = m
  · rw [if_pos z, if_pos z]
  · rw [if_neg z, if_neg z]; exact hf j (by omega)
end OX
theorem emit_loop {O : Nat → Int32} {lo hi po b : Nat} (hb : b ≤ 1) (hpo : po < 1000) : ∀ (q k i m : Nat) (h : am_H) (g : Nat → Nat), OA h O lo hi po m g → i + k = po → k < q → m + k ≤ 256 → ∃ h', F_X3_emit_10 q 60 (nI b) (nI i) h = some h' ∧ OA h' O lo hi 0 (m + k) (emF (1 - b) k m g) ∧ Fr inO h h'
  | 0, k, i, m, h, g, M, h1, h2, h3 => by omega
  | q + 1, 0, i, m, h, g, M, h1, h2, h3 => by
    obtain ⟨h', e, M', G⟩ := M.p4 0
    rw [F_X3_emit_10, M.gr.2.2.2.2, Option.bind_some, if_pos (nI_le (by omega) (by omega)), show (0 : Int32) = nI 0 from rfl, e]
    exact ⟨h', rfl, M', G⟩
  | q + 1, k + 1, i, m, h, g, M, h1, h2, h3 => by
    obtain ⟨h', e, M', G⟩ := M.add (show m < 256 by omega) (1 - b)
    rw [F_X3_emit_10, M.gr.2.2.2.2, Option.bind_some, if_neg (nI_ge (by omega) (by omega)), M.gr.2.1, Option.bind_some, show (1 : Int32) = nI 1 from rfl, nI_subN hb, e, Option.bind_some, nI_add]
    obtain ⟨h2, e2, M2, G2⟩ := emit_loop hb hpo q k (i + 1) (m + 1) h' _ M' (by omega) (by omega) (by omega)
    rw [show m + 1 + k = m + (k + 1) by omega] at M2
    exact ⟨h2, e2, M2, G.tr G2 (fun _ z => z) (fun _ z => z)⟩
theorem emit_t {O : Nat → Int32} {lo hi po b m : Nat} {h : am_H} {g : Nat → Nat} (hb : b ≤ 1) (M : OA h O lo hi po m g) (hm : m + 1 + po ≤ 256) : ∃ h', F_X3_emit 60 (nI b) h = some h' ∧ OA h' O lo hi 0 (m + 1 + po) (emF (1 - b) po (m + 1) (updN g m b)) ∧ Fr inO h h' := by
  obtain ⟨h1, e1, M1, G1⟩ := M.add (show m < 256 by omega) b
  obtain ⟨h2, e2, M2, G2⟩ := emit_loop hb (show po < 1000 by omega) am_F po 0 (m + 1) h1 _ M1 (by omega) (by show _ < 100000; omega) (by omega)
  refine ⟨h2, ?_, M2, G1.tr G2 (fun _ z => z) (fun _ z => z)⟩
  unfold F_X3_emit F_X3_emit_b
  rw [M.1, Option.bind_some, M.gr.2.1, Option.bind_some, e1, Option.bind_some]
  exact e2
theorem w84_t {K : Nat → Int32 → am_H → Option am_H} {O : Nat → Int32} {lo hi po m i off : Nat} {h : am_H} {g : Nat → Nat} (M : OA h O lo hi po m g) (h1 : off ≤ lo) (h2 : off ≤ hi) : ∃ h', F_X3_widen_84 K 60 (nI i) (nI off) h = K 60 (nI (i + 1)) h' ∧ OA h' O (2 * (lo - off)) (2 * (hi - off) + 1) po m g ∧ Fr inO h h' := by
  obtain ⟨h', e, M', G⟩ := M.p2 (2 * (lo - off))
  obtain ⟨h'', e', M'', G'⟩ := M'.p3 (2 * (hi - off) + 1)
  refine ⟨h'', ?_, M'', G.tr G' (fun _ z => z) (fun _ z => z)⟩
  unfold F_X3_widen_84
  rw [M.gr.2.2.1, Option.bind_some, nI_subN h1, show (2 : Int32) = nI 2 from rfl, nI_mulN, e, Option.bind_some, M'.gr.2.2.2.1, Option.bind_some, nI_subN h2, nI_mulN, nI_1, e', Option.bind_some, nI_1]
theorem widen_loop {O : Nat → Int32} : ∀ (k q i lo hi po m : Nat) (h : am_H) (g : Nat → Nat), OA h O lo hi po m g → lo ≤ hi → hi < 65536 → 65536 < (hi - lo + 1) * 2 ^ k → i + k ≤ 64 → k < q → m + po + k ≤ 255 → ∃ h', F_X3_widen_2 q 60 (nI i) h = some h' ∧ OA h' O (wd k lo hi po m g).1 (wd k lo hi po m g).2.1 (wd k lo hi po m g).2.2.1 (wd k lo hi po m g).2.2.2.1 (wd k lo hi po m g).2.2.2.2 ∧ Fr inO h h'
  | 0, q, i, lo, hi, po, m, h, g, M, h1, h2, h3, h4, h5, h6 => by
    rw [Nat.pow_zero, Nat.mul_one] at h3
    omega
  | k + 1, 0, i, lo, hi, po, m, h, g, M, h1, h2, h3, h4, h5, h6 => by omega
  | k + 1, q + 1, i, lo, hi, po, m, h, g, M, h1, h2, h3, h4, h5, h6 => by
    rw [pow_step] at h3
    unfold wd
    rw [F_X3_widen_2, if_neg (show ¬ (64 : Int32) ≤ nI i from nI_ge (b := 64) (by omega) (by decide)), M.gr.2.2.2.1, Option.bind_some]
    by_cases c1 : hi < 32768
    · rw [if_pos c1, if_neg (show ¬ (32768 : Int32) ≤ nI hi from nI_ge (b := 32768) c1 (by decide))]
      obtain ⟨h', e, M', G⟩ := emit_t (b := 0) (by decide) M (by omega)
      obtain ⟨h'', e', M'', G'⟩ := w84_t (K := F_X3_widen_2 q) (i := i) (off := 0) M' (by omega) (by omega)
      rw [show (0 : Int32) = nI 0 from rfl, e, Option.bind_some, e']
      rw [Nat.sub_zero, Nat.sub_zero] at M''
      obtain ⟨h2', e2, M2, G2⟩ := widen_loop k q (i + 1) _ _ _ _ h'' _ M'' (by omega) (by omega) (by rw [show 2 * hi + 1 - 2 * lo + 1 = 2 * (hi - lo + 1) by omega]; exact h3) (by omega) (by omega) (by omega)
      exact ⟨h2', e2, M2, (G.tr G' (T := inO) (fun _ z => z) (fun _ z => z)).tr G2 (fun _ z => z) (fun _ z => z)⟩
    rw [if_neg c1, if_pos (show (32768 : Int32) ≤ nI hi from nI_le (a := 32768) (by omega) (by omega)), M.gr.2.2.1, Option.bind_some]
    by_cases c2 : 32768 ≤ lo
    · rw [if_pos c2, if_neg (show ¬ nI lo < (32768 : Int32) from nI_nlt (b := 32768) c2 (by omega))]
      obtain ⟨h', e, M', G⟩ := emit_t (b := 1) (by decide) M (by omega)
      obtain ⟨h'', e', M'', G'⟩ := w84_t (K := F_X3_widen_2 q) (i := i) (off := 32768) M' c2 (by omega)
      rw [show (1 : Int32) = nI 1 from rfl, e, Option.bind_some, show (32768 : Int32) = nI 32768 from rfl, e']
      obtain ⟨h2', e2, M2, G2⟩ := widen_loop k q (i + 1) _ _ _ _ h'' _ M'' (by omega) (by omega) (by rw [show 2 * (hi - 32768) + 1 - 2 * (lo - 32768) + 1 = 2 * (hi - lo + 1) by omega]; exact h3) (by omega) (by omega) (by omega)
      exact ⟨h2', e2, M2, (G.tr G' (T := inO) (fun _ z => z) (fun _ z => z)).tr G2 (fun _ z => z) (fun _ z => z)⟩
    rw [if_neg c2, if_pos (show nI lo < (32768 : Int32) from nI_lt (b := 32768) (by omega) (by decide)), Option.bind_some]
    unfold F_X3_widen_83
    by_cases c3 : 16384 ≤ lo
    · rw [if_neg (show ¬ nI lo < (16384 : Int32) from nI_nlt (b := 16384) c3 (by omega)), Option.bind_some]
      by_cases c4 : hi < 49152
      · rw [if_pos (show 16384 ≤ lo ∧ hi < 49152 from ⟨c3, c4⟩), if_neg (show ¬ (49152 : Int32) ≤ nI hi from nI_ge (b := 49152) c4 (by decide)), M.gr.2.2.2.2, Option.bind_some, nI_1]
        obtain ⟨h', e, M', G⟩ := M.p4 (po + 1)
        obtain ⟨h'', e', M'', G'⟩ := w84_t (K := F_X3_widen_2 q) (i := i) (off := 16384) M' c3 (by omega)
        rw [e, Option.bind_some, show (16384 : Int32) = nI 16384 from rfl, e']
        obtain ⟨h2', e2, M2, G2⟩ := widen_loop k q (i + 1) _ _ _ _ h'' _ M'' (by omega) (by omega) (by rw [show 2 * (hi - 16384) + 1 - 2 * (lo - 16384) + 1 = 2 * (hi - lo + 1) by omega]; exact h3) (by omega) (by omega) (by omega)
        exact ⟨h2', e2, M2, (G.tr G' (T := inO) (fun _ z => z) (fun _ z => z)).tr G2 (fun _ z => z) (fun _ z => z)⟩
      · rw [if_neg (show ¬ (16384 ≤ lo ∧ hi < 49152) from fun z => c4 z.2), if_pos (show (49152 : Int32) ≤ nI hi from nI_le (a := 49152) (by omega) (by omega))]
        exact ⟨h, rfl, M, Fr.rf⟩
    · rw [if_neg (show ¬ (16384 ≤ lo ∧ hi < 49152) from fun z => c3 z.1), if_pos (show nI lo < (16384 : Int32) from nI_lt (b := 16384) (by omega) (by decide))]
      exact ⟨h, rfl, M, Fr.rf⟩
section OX2
variable {s : Nat → Nat} {n a i : Nat}
theorem learn_loop {lo hi po m : Nat} {g : Nat → Nat} (hi' : i < n) : ∀ (q k j : Nat) (h : am_H) (O : Nat → Int32), SgAt h a n s → OA h O lo hi po m g → j + k = i - 1 → k < q → (∀ x, x < 16 → O x = nI (odK s i x j)) →
    ∃ h' O', F_X3_learn_10 q 60 a (nI i) (nI (j + 1)) h = some h' ∧ SgAt h' a n s ∧ OA h' O' lo hi po m g ∧ Fr inO h h' ∧ (∀ x, x < 16 → O' x = nI (od s i x))
  | 0, k, j, h, O, r, M, h1, h2, h3 => by omega
  | q + 1, 0, j, h, O, r, M, h1, h2, h3 => by
    have hn := r.2.2.1
    rw [F_X3_learn_10, if_pos (nI_le (by omega) (by omega))]
    refine ⟨h, O, rfl, r, M, Fr.rf, fun x hx => ?_⟩
    unfold od
    rw [h3 x hx, show j = i - 1 by omega]
  | q + 1, k + 1, j, h, O, r, M, h1, h2, h3 => by
    have hn := r.2.2.1
    have s1 := r.2.2.2 (j + 1) (by omega)
    have s2 := r.2.2.2 j (by omega)
    have s3 := r.2.2.2 (i - 1) (by omega)
    rw [F_X3_learn_10, if_neg (nI_ge (by omega) (by omega)), r.at (show j + 1 < n by omega), Option.bind_some, pre_nI, r.at (show j < n by omega), Option.bind_some, show nI i - 1 = nI (i - 1) by rw [show (1 : Int32) = nI 1 from rfl, nI_subN (by omega)], r.at (show i - 1 < n by omega), Option.bind_some]
    unfold F_X3_learn_65
    rw [nI_1]
    have eo : ∀ x, odK s i x (j + 1) = odK s i x j + bN (oP s i j && (s (j + 1) == x)) := fun x => (Nat.add_assoc 1 _ _).symm
    by_cases c : s j = s (i - 1)
    · rw [if_pos (by rw [c]), if_neg (nI_pos (by omega)), M.gr.1, Option.bind_some, ln_ia M.2.1 (by decide), Option.bind_some, if_neg (nI_ge s1 (by decide)), Option.bind_some, il_ia M.2.1 s1 (by decide), Option.bind_some]
      obtain ⟨h', e, i', G⟩ := ia_set M.2.1 s1 (by decide) (O (s (j + 1)) + 1)
      rw [e, Option.bind_some]
      have G' : Fr inO h h' := G.mono (fun q z => by unfold inO; omega)
      obtain ⟨f, rr, hf⟩ := M.2.2
      have M' : OA h' (upd O (s (j + 1)) (O (s (j + 1)) + 1)) lo hi po m g := ⟨(obj_at (G.2.2 _ (by omega))).trans M.1, i', f, rr.fr G (by omega) (by omega), hf⟩
      obtain ⟨h2', O2, e2, r2, M2, G2, g2⟩ := learn_loop hi' q k (j + 1) h' _ (r.fr G' inO_d) M' (by omega) (by omega) (fun x hx => by
        have hp : oP s i j = true := by unfold oP; simpa using c
        rw [eo x, hp, Bool.true_and]
        by_cases z : x = s (j + 1)
        · rw [z, upd_self, h3 _ s1, nI_1, show (s (j + 1) == s (j + 1)) = true by simp]; rfl
        · rw [upd_ne z, h3 x hx, show (s (j + 1) == x) = false by simp; omega]; rfl)
      exact ⟨h2', O2, e2, r2, M2, G'.tr G2 (fun _ z => z) (fun _ z => z), g2⟩
    · rw [if_neg (fun z => c ((nI_eq (by omega) (by omega)).mp z))]
      exact learn_loop hi' q k (j + 1) h O r M (by omega) (by omega) (fun x hx => by
        have hp : oP s i j = false := by unfold oP; simpa using c
        rw [eo x, hp, Bool.false_and, h3 x hx]; rfl)
theorem learn_t {lo hi po m : Nat} {g : Nat → Nat} {h : am_H} {O : Nat → Int32} (hi' : i < n) (r : SgAt h a n s) (M : OA h O lo hi po m g) : ∃ h' O', F_X3_learn 60 a (nI i) h = some h' ∧ SgAt h' a n s ∧ OA h' O' lo hi po m g ∧ Fr inO h h' ∧ (∀ x, x < 16 → O' x = nI (od s i x)) := by
  obtain ⟨h1, O1, e1, i1, g1, G⟩ := fill_t M.2.1 (by decide) 1
  have G' : Fr inO h h1 := G.mono (fun q z => by unfold inO; omega)
  obtain ⟨f, rr, hf⟩ := M.2.2
  have M1 : OA h1 O1 lo hi po m g := ⟨(obj_at (G.2.2 _ (by omega))).trans M.1, i1, f, rr.fr G (by omega) (by omega), hf⟩
  obtain ⟨h2, O2, e2, r2, M2, G2, g2⟩ := learn_loop hi' am_F (i - 1) 0 h1 O1 (r.fr G' inO_d) M1 (by omega) (by show _ < 100000; have := r.2.2.1; omega) (fun x hx => by rw [g1 x hx]; rfl)
  refine ⟨h2, O2, ?_, r2, M2, G'.tr G2 (fun _ z => z) (fun _ z => z), g2⟩
  unfold F_X3_learn F_X3_learn_b
  rw [M.1, Option.bind_some, M.gr.1, Option.bind_some, e1, Option.bind_some]
  exact e2
theorem narrow_loop {lo hi po m : Nat} {g : Nat → Nat} {h : am_H} {O : Nat → Int32} (hn : n ≤ 24) (hs : ∀ k, k < n → s k < 16) (hi' : i < n) (M : OA h O lo hi po m g) (hO : ∀ x, x < 16 → O x = nI (od s i x)) (h1 : lo ≤ hi) (h2 : hi < 65536) (h3 : 16386 ≤ hi - lo + 1) : ∀ (q k x : Nat), x + k = 16 → k < q →
    ∃ h', F_X3_narrow_10 q 60 (nI (s i)) (nI (sumN (od s i) x)) (nI (if x ≤ s i then sumN (od s i) x else sumN (od s i) (s i))) (nI (if x ≤ s i then 0 else od s i (s i))) (nI x) h = some h' ∧ OA h' O (nwL s i lo hi) (nwH s i lo hi) po m g ∧ Fr inO h h'
  | 0, k, x, h4, h5 => by omega
  | q + 1, 0, x, h4, h5 => by
    have hsi := hs i hi'
    have t1 := oT_le s i
    have hd := div_facts (r := hi - lo + 1) (c := oC s i) (o := od s i (s i)) t1.1 (by omega) h3 (od_pos s i _) (oCT hs hi')
    have hk := nw_ok hs hn hi' h1 h2 h3
    have hco := oCT hs hi'
    have hm1 : (hi - lo + 1) * (oC s i + od s i (s i)) ≤ 65536 * 39 := Nat.mul_le_mul (by omega) (by omega)
    have hm2 : (hi - lo + 1) * oC s i ≤ 65536 * 39 := Nat.mul_le_mul (by omega) (by omega)
    have e16 : x = 16 := by omega
    subst e16
    rw [F_X3_narrow_10, M.gr.1, Option.bind_some, ln_ia M.2.1 (by decide), Option.bind_some, if_pos (nI_le (by decide) (by decide)), od_sumT hs hi', if_neg (show ¬ 16 ≤ s i by omega), if_neg (show ¬ 16 ≤ s i by omega), od_sumC, if_pos (show (1 : Int32) ≤ nI (oT s i) from nI_le (a := 1) (by omega) (by omega)), M.gr.2.2.2.1, Option.bind_some, M.gr.2.2.1, Option.bind_some, Option.bind_some, if_neg (nI_ne0 (by omega) (by omega)), nI_subN h1, nI_1, nI_add (oC s i), nI_mulN, nI_div (by omega) (by omega), nI_add, show nI (lo + (hi - lo + 1) * (oC s i + od s i (s i)) / oT s i) - 1 = nI (nwH s i lo hi) by rw [show (1 : Int32) = nI 1 from rfl, nI_subN hk.2.2.2]; rfl]
    obtain ⟨h', e, M', G⟩ := M.p3 (nwH s i lo hi)
    obtain ⟨h'', e', M'', G'⟩ := M'.p2 (nwL s i lo hi)
    rw [e, Option.bind_some, M'.gr.2.2.1, Option.bind_some, if_neg (nI_ne0 (by omega) (by omega)), nI_mulN, nI_div (by omega) (by omega), nI_add]
    unfold nwL at e'
    rw [e']
    exact ⟨h'', rfl, M'', G.tr G' (fun _ z => z) (fun _ z => z)⟩
  | q + 1, k + 1, x, h4, h5 => by
    have hsi := hs i hi'
    have ih := narrow_loop hn hs hi' M hO h1 h2 h3 q k (x + 1) (by omega) (by omega)
    have es : sumN (od s i) (x + 1) = sumN (od s i) x + od s i x := rfl
    rw [es] at ih
    rw [F_X3_narrow_10, M.gr.1, Option.bind_some, ln_ia M.2.1 (by decide), Option.bind_some, if_neg (nI_ge (by omega) (by decide)), Option.bind_some, il_ia M.2.1 (by omega) (by decide), Option.bind_some, hO x (by omega), nI_add, Option.bind_some, il_ia M.2.1 (by omega) (by decide), Option.bind_some, hO x (by omega)]
    unfold F_X3_narrow_64
    rw [nI_1]
    rcases Nat.lt_trichotomy x (s i) with c | c | c
    · rw [if_neg (nI_ge c (by omega)), if_pos (show x ≤ s i by omega), if_pos (show x ≤ s i by omega), Option.bind_some, il_ia M.2.1 (by omega) (by decide), Option.bind_some, hO x (by omega), nI_add]
      rw [if_pos (show x + 1 ≤ s i by omega), if_pos (show x + 1 ≤ s i by omega)] at ih
      exact ih
    · rw [if_pos (nI_le (by omega) (by omega)), if_pos (by rw [c]), if_pos (show x ≤ s i by omega)]
      rw [if_neg (show ¬ x + 1 ≤ s i by omega), if_neg (show ¬ x + 1 ≤ s i by omega)] at ih
      rw [c] at ih ⊢
      exact ih
    · rw [if_pos (nI_le (by omega) (by omega)), if_neg (fun z => by have := (nI_eq (by omega) (by omega)).mp z; omega), if_neg (show ¬ x ≤ s i by omega), if_neg (show ¬ x ≤ s i by omega)]
      rw [if_neg (show ¬ x + 1 ≤ s i by omega), if_neg (show ¬ x + 1 ≤ s i by omega)] at ih
      exact ih
theorem narrow_t {lo hi po m : Nat} {g : Nat → Nat} {h : am_H} {O : Nat → Int32} (hn : n ≤ 24) (hs : ∀ k, k < n → s k < 16) (hi' : i < n) (M : OA h O lo hi po m g) (hO : ∀ x, x < 16 → O x = nI (od s i x)) (h1 : lo ≤ hi) (h2 : hi < 65536) (h3 : 16386 ≤ hi - lo + 1) : ∃ h', F_X3_narrow 60 (nI (s i)) h = some h' ∧ OA h' O (nwL s i lo hi) (nwH s i lo hi) po m g ∧ Fr inO h h' := by
  obtain ⟨h', e, M', G⟩ := narrow_loop hn hs hi' M hO h1 h2 h3 am_F 16 0 (by omega) (by show _ < 100000; omega)
  rw [if_pos (Nat.zero_le _), if_pos (Nat.zero_le _)] at e
  refine ⟨h', ?_, M', G⟩
  unfold F_X3_narrow F_X3_narrow_b
  rw [M.1, Option.bind_some]
  exact e
theorem codeX_loop : ∀ (q k i : Nat) (h : am_H) (O : Nat → Int32), SgAt h a n s → OA h O (cd s i).1 (cd s i).2.1 (cd s i).2.2.1 (cd s i).2.2.2.1 (cd s i).2.2.2.2 → i + k = n → k < q →
    ∃ h' O' lo hi, F_X3_squeeze_25 q 60 a (nI i) h = some h' ∧ SgAt h' a n s ∧ OA h' O' lo hi 0 (cdN s n) (cdG s n) ∧ Fr inO h h'
  | 0, k, i, h, O, r, M, h1, h2 => by omega
  | q + 1, 0, i, h, O, r, M, h1, h2 => by
    have hn := r.2.2.1
    have ei : i = n := by omega
    subst ei
    obtain ⟨o1, o2, o3, o4⟩ := cd_ok r.2.2.2 hn i (Nat.le_refl _)
    obtain ⟨h', e, M', G⟩ := M.p4 ((cd s i).2.2.1 + 1)
    obtain ⟨h2, e2, M2, G2⟩ := emit_t (b := lastB (cd s i).1) (by unfold lastB; split <;> omega) M' (by omega)
    refine ⟨h2, O, _, _, ?_, (r.fr G inO_d).fr G2 inO_d, M2, G.tr G2 (fun _ z => z) (fun _ z => z)⟩
    rw [F_X3_squeeze_25, r.len, Option.bind_some, if_pos (nI_le (Nat.le_refl _) (by omega)), M.gr.2.2.2.2, Option.bind_some, nI_1, e, Option.bind_some, M'.gr.2.2.1, Option.bind_some]
    unfold F_X3_squeeze_84
    unfold lastB at e2
    by_cases c : (cd s i).1 < 16384
    · rw [if_neg (show ¬ (16384 : Int32) ≤ nI (cd s i).1 from nI_ge (b := 16384) c (by decide))]
      rw [if_pos c] at e2
      rw [show (0 : Int32) = nI 0 from rfl, e2]
      rfl
    · rw [if_pos (show (16384 : Int32) ≤ nI (cd s i).1 from nI_le (a := 16384) (by omega) (by omega))]
      rw [if_neg c] at e2
      rw [show (1 : Int32) = nI 1 from rfl, e2]
      rfl
  | q + 1, k + 1, i, h, O, r, M, h1, h2 => by
    have hn := r.2.2.1
    obtain ⟨o1, o2, o3, o4⟩ := cd_ok r.2.2.2 hn i (by omega)
    obtain ⟨p1, p2, p3, -⟩ := nw_ok r.2.2.2 hn (show i < n by omega) o1 o2 o3
    obtain ⟨ha, Oa, ea, ra, Ma, Ga, ga⟩ := learn_t (show i < n by omega) r M
    obtain ⟨hb, eb, Mb, Gb⟩ := narrow_t hn r.2.2.2 (show i < n by omega) Ma ga o1 o2 o3
    obtain ⟨hc, ec, Mc, Gc⟩ := widen_loop 8 am_F 0 _ _ _ _ hb _ Mb p1 p2 p3 (by omega) (by show _ < 100000; omega) (by omega)
    obtain ⟨h', O', lo, hi, e', r', M', G'⟩ := codeX_loop q k (i + 1) hc Oa ((ra.fr Gb inO_d).fr Gc inO_d) Mc (by omega) (by omega)
    refine ⟨h', O', lo, hi, ?_, r', M', ((Ga.tr Gb (T := inO) (fun _ z => z) (fun _ z => z)).tr Gc (T := inO) (fun _ z => z) (fun _ z => z)).tr G' (fun _ z => z) (fun _ z => z)⟩
    rw [F_X3_squeeze_25, r.len, Option.bind_some, if_neg (nI_ge (by omega) (by omega)), ea, Option.bind_some, ra.at (show i < n by omega), Option.bind_some, eb, Option.bind_some]
    unfold F_X3_widen F_X3_widen_b
    rw [Mb.1, Option.bind_some, show (0 : Int32) = nI 0 from rfl, ec, Option.bind_some, nI_1]
    exact e'
theorem squeezeO_t {lo hi po m : Nat} {g : Nat → Nat} {h : am_H} {O : Nat → Int32} (r : SgAt h a n s) (M : OA h O lo hi po m g) : ∃ h' O' lo hi, F_X3_squeeze 60 a h = some h' ∧ SgAt h' a n s ∧ OA h' O' lo hi 0 (cdN s n) (cdG s n) ∧ Fr inO h h' := by
  obtain ⟨f, rr, hf⟩ := M.2.2
  obtain ⟨h1, e1, r1, G1⟩ := row_empty rr
  have G1' : Fr inO h h1 := G1.mono (fun q z => by unfold inO; omega)
  have M1 : OA h1 O lo hi po 0 (fun _ => 0) := ⟨(obj_at (G1.2.2 _ (by omega))).trans M.1, (ia_at (G1.2.2 _ (by omega))).trans M.2.1, f, r1, fun j hj => by omega⟩
  obtain ⟨h2, e2, M2, G2⟩ := M1.p2 0
  obtain ⟨h3, e3, M3, G3⟩ := M2.p3 65535
  obtain ⟨h4, e4, M4, G4⟩ := M3.p4 0
  have G : Fr inO h h4 := ((G1'.tr G2 (T := inO) (fun _ z => z) (fun _ z => z)).tr G3 (T := inO) (fun _ z => z) (fun _ z => z)).tr G4 (fun _ z => z) (fun _ z => z)
  obtain ⟨h', O', lo', hi', e', r', M', G'⟩ := codeX_loop am_F n 0 h4 O (r.fr G inO_d) M4 (by omega) (by show _ < 100000; have := r.2.2.1; omega)
  refine ⟨h', O', lo', hi', ?_, r', M', G.tr G' (fun _ z => z) (fun _ z => z)⟩
  unfold F_X3_squeeze F_X3_squeeze_b
  rw [M.1, Option.bind_some, M.gr.2.1, Option.bind_some, e1, Option.bind_some, show (0 : Int32) = nI 0 from rfl, e2, Option.bind_some, show (65535 : Int32) = nI 65535 from rfl, e3, Option.bind_some, e4, Option.bind_some]
  exact e'
end OX2
