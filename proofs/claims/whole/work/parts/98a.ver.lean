/-! a new version -/
theorem newVer {h : am_H} {src cap n : Nat} {f : Nat → Int32} {p c : Int32} {s : Nat → Nat} (r : RowAt h src cap n f) (hn : n ≤ 8) (hs : ∀ k, k < n → f k = nI (s k)) : ∃ h' g, F_X7_init (h.length + 1) src p c (h ++ [.inr (.inr (7, am_flds 7))]) = some h' ∧ Gr 7 68 h h' ∧ am_obj (h.length + 1) 7 h' = some [.ref (h.length + 6), .int p, .int c, .int 0, .ref (h.length + 2), .ref (h.length + 4)] ∧ RowAt h' (h.length + 2) 24 0 (fun _ => 0) ∧ RowAt h' (h.length + 4) 24 0 (fun _ => 0) ∧ RowAt h' (h.length + 6) n n g ∧ ∀ k, k < n → g k = nI (s k) := by
  have hr := r.2
  have hl : src ≤ h.length ∧ src + 1 ≤ h.length := by
    obtain ⟨j, e, hj⟩ := am_obj_spec r.1.1
    obtain ⟨j', e', hj'⟩ := am_ia_spec r.1.2
    have := (List.getElem?_eq_some_iff.mp hj).1
    have := (List.getElem?_eq_some_iff.mp hj').1
    omega
  have e0 : am_pi 7 3 (h.length + 1) 0 (h ++ [.inr (.inr (7, am_flds 7))]) = some (h ++ [.inr (.inr (7, [.ref 0, .int 0, .int 0, .int 0, .ref 0, .ref 0]))]) := pv_app (r := 1) (by omega) rfl
  have e1 : am_nw 4 (h ++ [.inr (.inr (7, [.ref 0, .int 0, .int 0, .int 0, .ref 0, .ref 0]))]) = some (h.length + 2, h ++ [.inr (.inr (7, [.ref 0, .int 0, .int 0, .int 0, .ref 0, .ref 0])), .inr (.inr (4, [.ref 0, .int 0]))]) := nw_app
  have e2 : F_X4_init (h.length + 2) (nI 24) (h ++ [.inr (.inr (7, [.ref 0, .int 0, .int 0, .int 0, .ref 0, .ref 0])), .inr (.inr (4, [.ref 0, .int 0]))]) = some (h ++ [.inr (.inr (7, [.ref 0, .int 0, .int 0, .int 0, .ref 0, .ref 0])), .inr (.inr (4, [.ref (h.length + 3), .int (nI 0)])), .inl (0, 24, fun _ => 0)]) := row_init (r := 2) (by omega) (by omega) rfl
  have e3 : am_pr 7 4 (h.length + 1) (h.length + 2) (h ++ [.inr (.inr (7, [.ref 0, .int 0, .int 0, .int 0, .ref 0, .ref 0])), .inr (.inr (4, [.ref (h.length + 3), .int (nI 0)])), .inl (0, 24, fun _ => 0)]) = some (h ++ [.inr (.inr (7, [.ref 0, .int 0, .int 0, .int 0, .ref (h.length + 2), .ref 0])), .inr (.inr (4, [.ref (h.length + 3), .int (nI 0)])), .inl (0, 24, fun _ => 0)]) := pv_app (r := 1) (by omega) rfl
  have e4 : am_nw 4 (h ++ [.inr (.inr (7, [.ref 0, .int 0, .int 0, .int 0, .ref (h.length + 2), .ref 0])), .inr (.inr (4, [.ref (h.length + 3), .int (nI 0)])), .inl (0, 24, fun _ => 0)]) = some (h.length + 4, h ++ [.inr (.inr (7, [.ref 0, .int 0, .int 0, .int 0, .ref (h.length + 2), .ref 0])), .inr (.inr (4, [.ref (h.length + 3), .int (nI 0)])), .inl (0, 24, fun _ => 0), .inr (.inr (4, [.ref 0, .int 0]))]) := nw_app
  have e5 : F_X4_init (h.length + 4) (nI 24) (h ++ [.inr (.inr (7, [.ref 0, .int 0, .int 0, .int 0, .ref (h.length + 2), .ref 0])), .inr (.inr (4, [.ref (h.length + 3), .int (nI 0)])), .inl (0, 24, fun _ => 0), .inr (.inr (4, [.ref 0, .int 0]))]) = some (h ++ [.inr (.inr (7, [.ref 0, .int 0, .int 0, .int 0, .ref (h.length + 2), .ref 0])), .inr (.inr (4, [.ref (h.length + 3), .int (nI 0)])), .inl (0, 24, fun _ => 0), .inr (.inr (4, [.ref (h.length + 5), .int (nI 0)])), .inl (0, 24, fun _ => 0)]) := row_init (r := 4) (by omega) (by omega) rfl
  have e6 : am_pr 7 5 (h.length + 1) (h.length + 4) (h ++ [.inr (.inr (7, [.ref 0, .int 0, .int 0, .int 0, .ref (h.length + 2), .ref 0])), .inr (.inr (4, [.ref (h.length + 3), .int (nI 0)])), .inl (0, 24, fun _ => 0), .inr (.inr (4, [.ref (h.length + 5), .int (nI 0)])), .inl (0, 24, fun _ => 0)]) = some (h ++ [.inr (.inr (7, [.ref 0, .int 0, .int 0, .int 0, .ref (h.length + 2), .ref (h.length + 4)])), .inr (.inr (4, [.ref (h.length + 3), .int (nI 0)])), .inl (0, 24, fun _ => 0), .inr (.inr (4, [.ref (h.length + 5), .int (nI 0)])), .inl (0, 24, fun _ => 0)]) := pv_app (r := 1) (by omega) rfl
  have e8 : am_nw 4 (h ++ [.inr (.inr (7, [.ref 0, .int 0, .int 0, .int 0, .ref (h.length + 2), .ref (h.length + 4)])), .inr (.inr (4, [.ref (h.length + 3), .int (nI 0)])), .inl (0, 24, fun _ => 0), .inr (.inr (4, [.ref (h.length + 5), .int (nI 0)])), .inl (0, 24, fun _ => 0)]) = some (h.length + 6, h ++ [.inr (.inr (7, [.ref 0, .int 0, .int 0, .int 0, .ref (h.length + 2), .ref (h.length + 4)])), .inr (.inr (4, [.ref (h.length + 3), .int (nI 0)])), .inl (0, 24, fun _ => 0), .inr (.inr (4, [.ref (h.length + 5), .int (nI 0)])), .inl (0, 24, fun _ => 0), .inr (.inr (4, [.ref 0, .int 0]))]) := nw_app
  have e9 : F_X4_init (h.length + 6) (nI n) (h ++ [.inr (.inr (7, [.ref 0, .int 0, .int 0, .int 0, .ref (h.length + 2), .ref (h.length + 4)])), .inr (.inr (4, [.ref (h.length + 3), .int (nI 0)])), .inl (0, 24, fun _ => 0), .inr (.inr (4, [.ref (h.length + 5), .int (nI 0)])), .inl (0, 24, fun _ => 0), .inr (.inr (4, [.ref 0, .int 0]))]) = some (h ++ [.inr (.inr (7, [.ref 0, .int 0, .int 0, .int 0, .ref (h.length + 2), .ref (h.length + 4)])), .inr (.inr (4, [.ref (h.length + 3), .int (nI 0)])), .inl (0, 24, fun _ => 0), .inr (.inr (4, [.ref (h.length + 5), .int (nI 0)])), .inl (0, 24, fun _ => 0), .inr (.inr (4, [.ref (h.length + 7), .int (nI 0)])), .inl (0, n, fun _ => 0)]) := row_init (r := 6) (by omega) (by omega) rfl
  have e10 : am_pr 7 0 (h.length + 1) (h.length + 6) (h ++ [.inr (.inr (7, [.ref 0, .int 0, .int 0, .int 0, .ref (h.length + 2), .ref (h.length + 4)])), .inr (.inr (4, [.ref (h.length + 3), .int (nI 0)])), .inl (0, 24, fun _ => 0), .inr (.inr (4, [.ref (h.length + 5), .int (nI 0)])), .inl (0, 24, fun _ => 0), .inr (.inr (4, [.ref (h.length + 7), .int (nI 0)])), .inl (0, n, fun _ => 0)]) = some (h ++ [.inr (.inr (7, [.ref (h.length + 6), .int 0, .int 0, .int 0, .ref (h.length + 2), .ref (h.length + 4)])), .inr (.inr (4, [.ref (h.length + 3), .int (nI 0)])), .inl (0, 24, fun _ => 0), .inr (.inr (4, [.ref (h.length + 5), .int (nI 0)])), .inl (0, 24, fun _ => 0), .inr (.inr (4, [.ref (h.length + 7), .int (nI 0)])), .inl (0, n, fun _ => 0)]) := pv_app (r := 1) (by omega) rfl
  generalize ht : ([.inr (.inr (7, [.ref (h.length + 6), .int 0, .int 0, .int 0, .ref (h.length + 2), .ref (h.length + 4)])), .inr (.inr (4, [.ref (h.length + 3), .int (nI 0)])), .inl (0, 24, fun _ => 0), .inr (.inr (4, [.ref (h.length + 5), .int (nI 0)])), .inl (0, 24, fun _ => 0), .inr (.inr (4, [.ref (h.length + 7), .int (nI 0)])), .inl (0, n, fun _ => 0)] : am_H) = t at e10
  have o1 : am_obj (h.length + 1) 7 (h ++ t) = some [.ref (h.length + 6), .int 0, .int 0, .int 0, .ref (h.length + 2), .ref (h.length + 4)] := by rw [obj_app1 (by omega), ← ht]; rfl
  have ra : RowAt (h ++ t) (h.length + 2) 24 0 (fun _ => 0) := row_of (by omega) (by rw [← ht]; rfl) (by rw [← ht]; rfl) (by omega)
  have rb : RowAt (h ++ t) (h.length + 4) 24 0 (fun _ => 0) := row_of (by omega) (by rw [← ht]; rfl) (by rw [← ht]; rfl) (by omega)
  have rc : RowAt (h ++ t) (h.length + 6) n 0 (fun _ => 0) := row_of (by omega) (by rw [← ht]; rfl) (by rw [← ht]; rfl) (by omega)
  have hlt : t.length = 7 := by rw [← ht]; rfl
  have hnt : am_n t = 60 + n := by rw [← ht]; show 6 + (2 + (24 + (2 + (24 + (2 + (n + 0)))))) = 60 + n; omega
  obtain ⟨h1, f1, e11, rd, -, g2, G⟩ := row_addPart (a := h.length + 6) (b := src) (i := 0) (e := n) (k := n) (by omega) rc (r.app t) (by omega) (by omega) (by omega) (by omega) (by omega)
  rw [Nat.zero_add] at rd
  have g0 : am_gr 7 0 (h.length + 1) (h ++ t) = some (h.length + 6) := by unfold am_gr; rw [o1]; rfl
  have o2 := (obj_at (c := 7) (G.2.2 (h.length + 1) (by omega))).trans o1
  obtain ⟨h2, e12, o3, G2⟩ := ob_set (k := 1) o2 (by show 1 < 6; omega) p
  obtain ⟨h3, e13, o4, G3⟩ := ob_set (k := 2) o3 (by show 2 < 6; omega) c
  have GG : Fr (fun q => h.length < q) (h ++ t) h3 := (G.tr G2 (T := fun q => h.length < q) (fun q z => by omega) (fun q z => by omega)).tr G3 (fun _ z => z) (fun q z => by omega)
  have rl8 : F_X4_length src (h ++ [.inr (.inr (7, [.ref 0, .int 0, .int 0, .int 0, .ref (h.length + 2), .ref (h.length + 4)])), .inr (.inr (4, [.ref (h.length + 3), .int (nI 0)])), .inl (0, 24, fun _ => 0), .inr (.inr (4, [.ref (h.length + 5), .int (nI 0)])), .inl (0, 24, fun _ => 0), .inr (.inr (4, [.ref 0, .int 0]))]) = some (nI n) := row_length (r.app _)
  have rl12 : F_X4_length src (h ++ t) = some (nI n) := row_length (r.app _)
  refine ⟨h3, f1, ?_, ⟨by rw [GG.1, List.length_append, hlt], by rw [GG.2.1, am_n_app, hnt]; omega, fun q hq => by rw [GG.2.2 q (by omega), at_app0 hq]⟩, o4, ((ra.fr G (by omega) (by omega)).fr G2 (by omega) (by omega)).fr G3 (by omega) (by omega), ((rb.fr G (by omega) (by omega)).fr G2 (by omega) (by omega)).fr G3 (by omega) (by omega), (rd.fr G2 (by omega) (by omega)).fr G3 (by omega) (by omega), fun k hk => by
    have := g2 k hk
    rw [Nat.zero_add] at this
    rw [this, hs k hk]⟩
  unfold F_X7_init F_X7_init_b
  rw [obj_app1 (r := 1) (by omega), show am_obj 1 7 [(.inr (.inr (7, am_flds 7)) : am_C)] = some (am_flds 7) from rfl, Option.bind_some, Option.bind_some, e0, Option.bind_some, e1, Option.bind_some]
  show (F_X4_init (h.length + 2) (nI 24) (h ++ [_, _])).bind _ = _
  rw [e2, Option.bind_some]
  show (am_pr 7 4 (h.length + 1) (h.length + 2) _).bind _ = _
  rw [e3, Option.bind_some, e4, Option.bind_some]
  show (F_X4_init (h.length + 4) (nI 24) (h ++ [_, _, _, _])).bind _ = _
  rw [e5, Option.bind_some]
  show (am_pr 7 5 (h.length + 1) (h.length + 4) _).bind _ = _
  rw [e6, Option.bind_some, e8, Option.bind_some]
  show (F_X4_length src (h ++ [_, _, _, _, _, _])).bind _ = _
  rw [rl8, Option.bind_some]
  show (F_X4_init (h.length + 6) (nI n) (h ++ [_, _, _, _, _, _])).bind _ = _
  rw [e9, Option.bind_some]
  show (am_pr 7 0 (h.length + 1) (h.length + 6) _).bind _ = _
  rw [e10, Option.bind_some, g0, Option.bind_some, rl12, Option.bind_some, show (0 : Int32) = nI 0 from rfl, e11, Option.bind_some, e12, Option.bind_some, e13, Option.bind_some]
/-! blocks that are alike; a block more, a version more -/
def sameB (S : sS) (n : Nat) (g : Nat → Nat) (b : Nat) : Bool := !tn S b && (decide (ln S b = n) && allN (fun k => sg S b k == g k) n)
def lkB (S : sS) (n : Nat) (g : Nat → Nat) : Nat := fst2 (sameB S n g) (nb S) 0
def S_b (S : sS) (n : Nat) (g : Nat → Nat) : sS := (S.1, S.2.1, (nb S + 1, updN (ln S) (nb S) n, fun b => if b = nb S then g else sg S b, fun b => if b = nb S then false else tn S b), S.2.2.2)
def layS (S : sS) (n : Nat) (g : Nat → Nat) : sS := if lkB S n g < nb S then S else S_b S n g
def layN (S : sS) (n : Nat) (g : Nat → Nat) : Nat := if lkB S n g < nb S then 0 else 1
def updI (f : Nat → Int32) (k : Nat) (x : Int32) : Nat → Int32 := fun j => if j = k then x else f j
def S_v (S : sS) (n : Nat) (f : Nat → Nat) (p : Int32) (c : Nat) : sS := (S.1, S.2.1, S.2.2.1, (nv S + 1, updN (rl S) (nv S) n, (fun v => if v = nv S then f else rw_ S v), updI (pr S) (nv S) p, updN (fr S) (nv S) c, (fun v => if v = nv S then fun k => sumN (fun i => num S (f i) k) n % 17 else s1 S v), (fun v => if v = nv S then fun k => sumN (fun i => (i + 1) * num S (f i) k) n % 17 else s2 S v)))
theorem lkB_le (S : sS) (n : Nat) (g : Nat → Nat) : lkB S n g ≤ nb S := by
  have := (fst2_spec (sameB S n g) (nb S) 0).2.1
  unfold lkB
  omega
theorem S_b_ln {S : sS} {n : Nat} {g : Nat → Nat} {b : Nat} (hb : b < nb S) : ln (S_b S n g) b = ln S b ∧ sg (S_b S n g) b = sg S b ∧ tn (S_b S n g) b = tn S b ∧ ∀ k, num (S_b S n g) b k = num S b k := by
  have e1 : ln (S_b S n g) b = ln S b := updN_ne (by omega)
  have e2 : sg (S_b S n g) b = sg S b := if_neg (by omega)
  have e3 : tn (S_b S n g) b = tn S b := if_neg (by omega)
  refine ⟨e1, e2, e3, fun k => ?_⟩
  unfold num
  rw [e1, e2]
theorem S_b_new {S : sS} {n : Nat} {g : Nat → Nat} : ln (S_b S n g) (nb S) = n ∧ sg (S_b S n g) (nb S) = g ∧ tn (S_b S n g) (nb S) = false := ⟨updN_self, if_pos rfl, if_pos rfl⟩
theorem WF_b {S : sS} (w : WF S) {n : Nat} {g : Nat → Nat} (hn : 1 ≤ n ∧ n ≤ 24) (hg : ∀ k, k < n → g k < 16) (hb : nb S < 200) : WF (S_b S n g) := by
  refine ⟨w.1, w.2.1, ⟨by show nb S + 1 ≤ 200; omega, fun b hb' => ?_⟩, w.2.2.2.1, fun v hv => ?_⟩
  · have hb' : b < nb S + 1 := hb'
    by_cases z : b = nb S
    · rw [z, S_b_new.1, S_b_new.2.1]; exact ⟨hn, hg⟩
    · rw [(S_b_ln (by omega)).1, (S_b_ln (by omega)).2.1]; exact w.2.2.1.2 b (by omega)
  · obtain ⟨⟨h1, h2⟩, h3⟩ := w.2.2.2.2 v hv
    refine ⟨⟨h1, fun i hi => by have := h2 i hi; show _ < nb S + 1; exact Nat.lt_succ_of_lt this⟩, fun k hk => ?_⟩
    obtain ⟨h4, h5⟩ := h3 k hk
    refine ⟨h4.trans ?_, h5.trans ?_⟩
    · congr 1
      exact sumN_cong _ (fun i hi => ((S_b_ln (h2 i hi)).2.2.2 k).symm)
    · congr 1
      exact sumN_cong _ (fun i hi => by show _ = (i + 1) * num (S_b S n g) (rw_ S v i) k; rw [(S_b_ln (h2 i hi)).2.2.2 k])
theorem WF_v {S : sS} (w : WF S) {n c : Nat} {f : Nat → Nat} {p : Int32} (hn : n ≤ 8) (hf : ∀ i, i < n → f i < nb S) (hv : nv S < 30) : WF (S_v S n f p c) := by
  refine ⟨w.1, w.2.1, w.2.2.1, by show nv S + 1 ≤ 30; omega, fun v hv' => ?_⟩
  have hv' : v < nv S + 1 := hv'
  by_cases z : v = nv S
  · have e1 : rl (S_v S n f p c) v = n := by rw [z]; exact updN_self
    have e2 : rw_ (S_v S n f p c) v = f := if_pos z
    have e3 : s1 (S_v S n f p c) v = fun k => sumN (fun i => num S (f i) k) n % 17 := if_pos z
    have e4 : s2 (S_v S n f p c) v = fun k => sumN (fun i => (i + 1) * num S (f i) k) n % 17 := if_pos z
    rw [e1, e2, e3, e4]
    exact ⟨⟨hn, hf⟩, fun k hk => ⟨rfl, rfl⟩⟩
  · have e1 : rl (S_v S n f p c) v = rl S v := updN_ne z
    have e2 : rw_ (S_v S n f p c) v = rw_ S v := if_neg z
    have e3 : s1 (S_v S n f p c) v = s1 S v := if_neg z
    have e4 : s2 (S_v S n f p c) v = s2 S v := if_neg z
    rw [e1, e2, e3, e4]
    exact w.2.2.2.2 v (by omega)
