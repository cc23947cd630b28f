/-! the class plans a block -/
theorem as_set {h : am_H} {a t c N k x : Nat} {f : Nat → Nat} {fs : List Value} (e : am_ra t a h = some (N, f)) (o : am_obj x c h = some fs) (hk : k < N) (hN : N < 2 ^ 31) : ∃ h', am_as t c a (nI k) x h = some h' ∧ am_ra t a h' = some (N, va_up f k x) ∧ Fr (fun q => q = a) h h' := by
  obtain ⟨j, rfl, hj⟩ := am_ra_spec e
  refine ⟨h.set j (.inr (.inl (t, N, va_up f k x))), ?_, ra_of (at_set_self (List.getElem?_eq_some_iff.mp hj).1), Fr.set hj rfl⟩
  unfold am_as
  rw [o, Option.bind_some, e, Option.bind_some, ix_nI hk hN]
  rfl
section IP
variable {h : am_H}
theorem isPart_loop {a src capa cap n M i : Nat} {fa f : Nat → Int32} {sa g : Nat → Nat} (r1 : RowAt h a capa n fa) (r2 : RowAt h src cap M f) (hi : i + n ≤ M) (h1 : ∀ k, k < n → fa k = nI (sa k) ∧ sa k < 16) (h2 : ∀ k, k < n → f (i + k) = nI (g k) ∧ g k < 16) : ∀ (q j k : Nat), k + j = n → j < q → allN (fun k => sa k == g k) k = true → F_X4_isPart_15 q a src (nI i) (nI k) h = some (bI (allN (fun k => sa k == g k) n))
  | 0, j, k, h3, h4, h5 => by omega
  | q + 1, 0, k, h3, h4, h5 => by
    have ha := r1.2
    rw [F_X4_isPart_15, r1.gi, Option.bind_some, if_pos (nI_le (by omega) (by omega)), show n = k by omega, h5]
    rfl
  | q + 1, j + 1, k, h3, h4, h5 => by
    have ha := r1.2
    have hb := r2.2
    obtain ⟨a1, a2⟩ := h1 k (by omega)
    obtain ⟨b1, b2⟩ := h2 k (by omega)
    rw [F_X4_isPart_15, r1.gi, Option.bind_some, if_neg (nI_ge (by omega) (by omega)), row_at r1 (by omega), Option.bind_some, nI_add, row_at r2 (by omega), Option.bind_some, a1, b1]
    by_cases c : sa k = g k
    · rw [if_pos (by rw [c]), nI_1]
      exact isPart_loop r1 r2 hi h1 h2 q j (k + 1) (by omega) (by omega) (by show (allN _ k && (sa k == g k)) = true; rw [h5, c]; simp)
    · rw [if_neg (fun z => c ((nI_eq (by omega) (by omega)).mp z))]
      cases z : allN (fun k => sa k == g k) n with
      | false => rfl
      | true =>
        have := (allN_t n).mp z k (by omega)
        exact absurd (by simpa using this) c
theorem isPart_t {a src cap m n M i : Nat} {fa f : Nat → Int32} {sa g : Nat → Nat} (r1 : RowAt h a m m fa) (r2 : RowAt h src cap M f) (hn : n ≤ 24) (hm : m ≤ 24) (hi : i + n ≤ M) (h1 : ∀ k, k < m → fa k = nI (sa k) ∧ sa k < 16) (h2 : ∀ k, k < n → f (i + k) = nI (g k) ∧ g k < 16) : F_X4_isPart a src (nI i) (nI (i + n)) h = some (bI (decide (m = n) && allN (fun k => sa k == g k) n)) := by
  have hb := r2.2
  unfold F_X4_isPart F_X4_isPart_b
  rw [r1.1.1, Option.bind_some, r1.gi, Option.bind_some, nI_subN (by omega), Nat.add_sub_cancel_left]
  by_cases c : m = n
  · subst c
    rw [if_pos rfl, decide_eq_true rfl, Bool.true_and]
    exact isPart_loop r1 r2 hi h1 h2 am_F m 0 (by omega) (by show _ < 100000; omega) rfl
  · rw [if_neg (fun z => c ((nI_eq (by omega) (by omega)).mp z)), decide_eq_false c]
    rfl
end IP
section PL
variable {Z : sZ} {S : sS} {pb pv : Nat → Nat} {h : am_H}
theorem like_loop (w : WF S) (C : RX Z S pb pv h) {src cap M i n : Nat} {f : Nat → Int32} {g : Nat → Nat} (r2 : RowAt h src cap M f) (hn : n ≤ 24) (hi : i + n ≤ M) (h2 : ∀ k, k < n → f (i + k) = nI (g k) ∧ g k < 16) : ∀ (q k b : Nat), b + k = nb S → k < q → F_X8_blockLike_3 q 1 src (nI i) (nI (i + n)) (nI b) h = some (if fst2 (sameB S n g) k b = nb S then -1 else nI (fst2 (sameB S n g) k b))
  | 0, k, b, h3, h4 => by omega
  | q + 1, 0, b, h3, h4 => by
    have hnb := w.2.2.1.1
    rw [F_X8_blockLike_3, C.gi3, Option.bind_some, if_pos (nI_le (by omega) (by omega)), show fst2 (sameB S n g) 0 b = b from rfl, if_pos (by omega)]
  | q + 1, k + 1, b, h3, h4 => by
    have hnb := w.2.2.1.1
    have hl := w.2.2.1.2 b (by omega)
    have B := C.2.2.2.2.2.1 b (by omega)
    have ih := like_loop w C r2 hn hi h2 q k (b + 1) (by omega) (by omega)
    have e : fst2 (sameB S n g) (k + 1) b = if sameB S n g b = true then b else fst2 (sameB S n g) k (b + 1) := rfl
    rw [F_X8_blockLike_3, C.gi3, Option.bind_some, if_neg (nI_ge (by omega) (by omega)), blockOf_t w C (by omega), Option.bind_some, if_neg (rD_ne _), B.f.2.2.2, Option.bind_some]
    unfold F_X8_blockLike_50
    rw [nI_1, e]
    cases ht : tn S b with
    | true =>
      have es : sameB S n g b = false := by unfold sameB; rw [ht]; rfl
      rw [if_neg (show ¬ bI true = 0 by decide), es, if_neg (show ¬ false = true by decide)]
      exact ih
    | false =>
      obtain ⟨fa, ra, hfa⟩ := BlkAt.sg w C (show b < nb S by omega) ht
      have es : sameB S n g b = (decide (ln S b = n) && allN (fun k => sg S b k == g k) n) := by unfold sameB; rw [ht]; rfl
      rw [if_pos (show bI false = 0 from rfl), B.f.1, Option.bind_some, isPart_t ra r2 hn hl.1.2 hi (fun k hk => ⟨hfa k hk, hl.2 k hk⟩) h2, Option.bind_some, ← es]
      cases hs : sameB S n g b with
      | true => rw [if_neg (show ¬ bI true = 0 by decide), if_pos (rfl : true = true), if_neg (by omega)]
      | false =>
        rw [if_pos (show bI false = 0 from rfl), if_neg (show ¬ false = true by decide)]
        exact ih
theorem like_t (w : WF S) (C : RX Z S pb pv h) {src cap M i n : Nat} {f : Nat → Int32} {g : Nat → Nat} (r2 : RowAt h src cap M f) (hn : n ≤ 24) (hi : i + n ≤ M) (h2 : ∀ k, k < n → f (i + k) = nI (g k) ∧ g k < 16) : F_X8_blockLike 1 src (nI i) (nI (i + n)) h = some (if lkB S n g = nb S then -1 else nI (lkB S n g)) := by
  have hnb := w.2.2.1.1
  unfold F_X8_blockLike F_X8_blockLike_b
  rw [C.ob]
  exact like_loop w C r2 hn hi h2 am_F (nb S) 0 (by omega) (by show _ < 100000; omega)
/-- the plan -/
def XP (Z : sZ) (S : sS) (pb pv : Nat → Nat) (h : am_H) (n : Nat) (pf : Nat → Nat) (c : Nat) : Prop := RX Z S pb pv h ∧ am_obj 1 8 h = some (xfs S (nI c)) ∧ ∃ f, RowAt h 8 8 n f ∧ ∀ j, j < n → f j = nI (pf j)
def Kp (h h' : am_H) (k : Nat) : Prop := (∀ q, 88 ≤ q → q < 116 → am_at h' q = am_at h q) ∧ am_n h' ≤ am_n h + 200 * k
theorem Kp.tr {h h1 h2 : am_H} {a b : Nat} (k1 : Kp h h1 a) (k2 : Kp h1 h2 b) : Kp h h2 (a + b) := ⟨fun q h1 h2 => (k2.1 q h1 h2).trans (k1.1 q h1 h2), by have := k1.2; have := k2.2; omega⟩
theorem Kp.fr {P : Nat → Prop} {h h1 : am_H} (F : Fr P h h1) (hp : ∀ q, 88 ≤ q → q < 116 → ¬ P q) : Kp h h1 0 := ⟨fun q h1 h2 => F.2.2 q (hp q h1 h2), by rw [F.2.1]; omega⟩
theorem plc_b {n : Nat} {g : Nat → Nat} (w : WF S) {v : Nat} (hv : v < nv S) : plc (S_b S n g) v = plc S v := sumN_cong _ (fun i hi => (S_b_ln ((w.2.2.2.2 v hv).1.2 i hi)).1)
/-- an item more in the plan -/
theorem XP.add {n c : Nat} {pf : Nat → Nat} (P : XP Z S pb pv h n pf c) (hn : n < 8) (x : Nat) : ∃ h', F_X8_planBlock_78 1 (nI x) h = some h' ∧ XP Z S pb pv h' (n + 1) (updN pf n x) c ∧ Fr (fun q => q = 8 ∨ q = 9) h h' := by
  obtain ⟨C, o, f, r, hf⟩ := P
  obtain ⟨h', e, r', G⟩ := row_add r hn (nI x)
  refine ⟨h', ?_, ⟨C.scr G (fun q z => by omega) (C.2.2.2.2.2.2.2.1.p (G.mono (fun q z => by omega)) ⟨_, _, r'⟩), (obj_at (G.2.2 _ (by omega))).trans o, _, r', fun j hj => ?_⟩, G⟩
  · unfold F_X8_planBlock_78
    rw [C.gr (k := 6) (x := 8) (fun _ => rfl), Option.bind_some, e, Option.bind_some]
  · show (if j = n then nI x else f j) = nI (if j = n then x else pf j)
    by_cases z : j = n
    · rw [if_pos z, if_pos z]
    · rw [if_neg z, if_neg z]; exact hf j (by omega)
theorem RX.newB (w : WF S) (C : RX Z S pb pv h) {h1 h2 : am_H} {n c : Nat} {g : Nat → Nat} (hb : nb S < 200) (G : Gr 7 44 h h1) (B : BlkAt Z h1 (rD (nb S + nv S)) n g false) (F : Fr (fun q => q = 1 ∨ q = 6) h1 h2) (o : am_obj 1 8 h2 = some (xfs (S_b S n g) (nI c))) {f : Nat → Nat} (ha : am_ra 2 6 h2 = some (200, va_up f (nb S) (rD (nb S + nv S)))) (hf : ∀ b, b < nb S → f b = rD (pb b)) : RX Z (S_b S n g) (updN pb (nb S) (nb S + nv S)) pv h2 := by
  obtain ⟨t, rfl⟩ := G.ex
  obtain ⟨⟨pn, c1⟩, ⟨f2, c2, d2⟩, ⟨f3, c3, d3⟩, -, ⟨f5, c5, d5⟩, c6, c7, c8, ⟨⟨k1, k2⟩, k3, k4, k5⟩, c10⟩ := C
  refine ⟨⟨_, o⟩, ⟨f2, (c2.app t).fr F (by omega) (by omega), d2⟩, ⟨f3, (c3.app t).fr F (by omega) (by omega), d3⟩, ⟨_, ha, fun b hb' => ?_⟩, ⟨f5, (ra_at (F.2.2 _ (by omega))).trans (ra_app c5), d5⟩, fun b hb' => ?_, fun v hv => ?_, (c8.app t).fr F (fun q h1 h2 => by omega), ⟨⟨fun b hb' => ?_, fun v hv => by have := k2 v hv; show pv v < nb S + 1 + nv S; omega⟩, fun b c hb' hc e => ?_, k4, fun b v hb' hv => ?_⟩, ?_⟩
  · have hb' : b < nb S + 1 := hb'
    show (if b = nb S then _ else f b) = rD (if b = nb S then _ else pb b)
    by_cases z : b = nb S
    · rw [if_pos z, if_pos z]
    · rw [if_neg z, if_neg z]; exact hf b (by omega)
  · have hb' : b < nb S + 1 := hb'
    by_cases z : b = nb S
    · rw [z, updN_self, S_b_new.1, S_b_new.2.1, S_b_new.2.2]
      exact B.fr F (fun q h1 h2 => by unfold rD at h1; omega)
    · rw [updN_ne z, (S_b_ln (by omega)).1, (S_b_ln (by omega)).2.1, (S_b_ln (by omega)).2.2.1]
      exact ((c6 b (by omega)).app t).fr F (fun q h1 h2 => by unfold rD at h1; omega)
  · rw [plc_b w hv]
    exact ((c7 v hv).app t).fr F (fun q h1 h2 => by unfold rD at h1; omega)
  · have hb' : b < nb S + 1 := hb'
    show updN pb (nb S) (nb S + nv S) b < nb S + 1 + nv S
    by_cases z : b = nb S
    · rw [z, updN_self]; omega
    · rw [updN_ne z]; have := k1 b (by omega); omega
  · have hb' : b < nb S + 1 := hb'
    have hc : c < nb S + 1 := hc
    by_cases z : b = nb S
    · by_cases z2 : c = nb S
      · omega
      · rw [z, updN_self, updN_ne z2] at e
        have := k1 c (by omega)
        omega
    · by_cases z2 : c = nb S
      · rw [z2, updN_self, updN_ne z] at e
        have := k1 b (by omega)
        omega
      · rw [updN_ne z, updN_ne z2] at e
        exact k3 b c (by omega) (by omega) e
  · have hb' : b < nb S + 1 := hb'
    have := k2 v hv
    by_cases z : b = nb S
    · rw [z, updN_self]; omega
    · rw [updN_ne z]; exact k5 b v (by omega) hv
  · show h2.length = 115 + 7 * (nb S + 1 + nv S)
    rw [F.1, G.1, c10]
    omega
theorem planBlock_t (w : WF S) {pn c : Nat} {pf : Nat → Nat} (P : XP Z S pb pv h pn pf c) {src cap M i n : Nat} {f : Nat → Int32} {g : Nat → Nat} (hsrc : src = 2 ∨ src = 10) (r : RowAt h src cap M f) (hn : 1 ≤ n ∧ n ≤ 24) (hi : i + n ≤ M) (hf : ∀ k, k < n → f (i + k) = nI (g k) ∧ g k < 16) (hpn : pn < 8) (hb : nb S < 200) (hc : c < 1000) : ∃ h' pb', F_X8_planBlock 1 src (nI i) (nI (i + n)) h = some h' ∧ XP Z (layS S n g) pb' pv h' (pn + 1) (updN pf pn (lkB S n g)) (c + layN S n g) ∧ RowAt h' src cap M f ∧ Kp h h' (layN S n g) := by
  have hM := r.2
  obtain ⟨C, o, fp, rp, hfp⟩ := id P
  have hlk := lkB_le S n g
  have hnb := w.2.2.1.1
  unfold F_X8_planBlock F_X8_planBlock_b
  rw [C.ob, if_pos (nI_lt (by omega) (by omega)), like_t w C r hn.2 hi hf, Option.bind_some]
  unfold layS layN
  by_cases c1 : lkB S n g < nb S
  · rw [if_neg (show ¬ lkB S n g = nb S by omega), if_neg (nI_nm1 (by omega)), if_pos c1, if_pos c1]
    obtain ⟨h', e, P', G⟩ := P.add hpn (lkB S n g)
    exact ⟨h', pb, e, P', r.fr G (by omega) (by omega), Kp.fr G (fun q h1 h2 => by omega)⟩
  · have elk : lkB S n g = nb S := by omega
    have hlen := C.2.2.2.2.2.2.2.2.2
    have eD : h.length + 1 = rD (nb S + nv S) := by unfold rD; rw [hlen]; omega
    obtain ⟨f4, a4, d4⟩ := C.2.2.2.1
    obtain ⟨h1, e1, G1, B1⟩ := newBlk (Z := Z) (s := g) r hn.2 hi (fun k hk => (hf k hk).1)
    obtain ⟨t, ht⟩ := G1.ex
    have o1 : am_obj 1 8 h1 = some (xfs S (nI c)) := by rw [ht]; exact obj_app o
    have a1 : am_ra 2 6 h1 = some (200, f4) := by rw [ht]; exact ra_app a4
    obtain ⟨h2, e2, a2, F2⟩ := as_set a1 B1.1 hb (by decide)
    have o2 := (obj_at (c := 8) (F2.2.2 1 (by omega))).trans o1
    obtain ⟨h3, e3, o3, F3⟩ := ob_set (k := 3) o2 (by show 3 < 16; omega) (nI (nb S + 1))
    have o3' : am_obj 1 8 h3 = some (xfs (S_b S n g) (nI c)) := o3
    obtain ⟨h4, e4, o4, F4⟩ := ob_set (k := 7) o3' (by show 7 < 16; omega) (nI (c + 1))
    have o4' : am_obj 1 8 h4 = some (xfs (S_b S n g) (nI (c + 1))) := o4
    have F24 : Fr (fun q => q = 1 ∨ q = 6) h1 h4 := (F2.tr F3 (T := fun q => q = 1 ∨ q = 6) (fun q z => Or.inr z) (fun q z => Or.inl z)).tr F4 (fun _ z => z) (fun q z => Or.inl z)
    have a4' : am_ra 2 6 h4 = some (200, va_up f4 (nb S) (h.length + 1)) := (ra_at (F4.2.2 _ (by omega))).trans ((ra_at (F3.2.2 _ (by omega))).trans a2)
    rw [eD] at B1 a4'
    have C4 := C.newB w hb G1 B1 F24 o4' a4' d4
    have r4 : RowAt h4 src cap M f := by
      have := r.app t
      rw [← ht] at this
      exact this.fr F24 (by omega) (by omega)
    have rp4 : RowAt h4 8 8 pn fp := by
      have := rp.app t
      rw [← ht] at this
      exact this.fr F24 (by omega) (by omega)
    have P4 : XP Z (S_b S n g) (updN pb (nb S) (nb S + nv S)) pv h4 pn pf (c + 1) := ⟨C4, o4', fp, rp4, hfp⟩
    obtain ⟨h5, e5, P5, F5⟩ := P4.add hpn (nb S)
    rw [if_pos elk, if_pos rfl, if_neg c1, if_neg c1, elk]
    refine ⟨h5, _, ?_, P5, r4.fr F5 (by omega) (by omega), ?_⟩
    · have g3 : ∀ {h : am_H} {S : sS} {x : Int32}, am_obj 1 8 h = some (xfs S x) → am_gi 8 3 1 h = some (nI (nb S)) ∧ am_gi 8 7 1 h = some x := fun o => by unfold am_gi; rw [o]; exact ⟨rfl, rfl⟩
      rw [C.gi3, Option.bind_some, C.gr (k := 2) (x := 6) (fun _ => rfl), Option.bind_some, ln_ra a4 (by decide), Option.bind_some, if_neg (nI_ge hb (by decide)), Option.bind_some, Option.bind_some, Option.bind_some, show am_nw 0 h = some (h.length + 1, h ++ [.inr (.inr (0, am_flds 0))]) from rfl, Option.bind_some]
      show (F_X0_init (h.length + 1) src (nI i) (nI (i + n)) (h ++ [.inr (.inr (0, am_flds 0))])).bind _ = _
      rw [e1, Option.bind_some]
      show (am_as 2 0 6 (nI (nb S)) (h.length + 1) h1).bind _ = _
      rw [e2, Option.bind_some, (g3 o2).1, Option.bind_some, nI_1, e3, Option.bind_some, (g3 o3').2, Option.bind_some, nI_1, e4, Option.bind_some, e5]
    · have K1 : Kp h h1 1 := ⟨fun q h1 h2 => G1.2.2 q (by omega), by have := G1.2.1; omega⟩
      exact (K1.tr (Kp.fr F24 (fun q h1 h2 => by omega))).tr (Kp.fr F5 (fun q h1 h2 => by omega))
end PL
