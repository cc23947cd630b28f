/-! RULES: the class squeezes -/
theorem UA.cong {h : am_H} {n : Nat} {fo la : Int32} {l l' sp : List Nat} {R : Nat → List Nat} (U : UA h n fo la l sp R) (e : l = l') : UA h n fo la l' sp R := by rw [← e]; exact U
theorem grow_loop {N : Nat} (hN : N ≤ 24) : ∀ (f q n : Nat) (l : List Nat) (P : sP) (h : am_H) (fo la : Int32) (sp : List Nat) (R : Nat → List Nat), UA h n fo la l sp R → GI N n l P → (n = 0 ∨ 2 ≤ l.length) → (∀ j, j < n → R j = [(P j).1, (P j).2]) → n + f = 12 → f < q →
    ∃ h' fo' la' sp' R', F_X5_squeeze_15 q 30 (nI n) h = F_X5_squeeze_90 30 h' ∧ UA h' (grw f n l P).1 fo' la' (grw f n l P).2.1 sp' R' ∧ Fr inU h h' ∧ GI N (grw f n l P).1 (grw f n l P).2.1 (grw f n l P).2.2 ∧ (∀ j, j < (grw f n l P).1 → R' j = [((grw f n l P).2.2 j).1, ((grw f n l P).2.2 j).2]) ∧ (grw f n l P).1 ≤ 11
  | 0, q, n, l, P, h, fo, la, sp, R, U, G, h0, hR, h1, h2 => by
    have := G.2.2.1
    omega
  | f + 1, 0, n, l, P, h, fo, la, sp, R, U, G, h0, hR, h1, h2 => by omega
  | f + 1, q + 1, n, l, P, h, fo, la, sp, R, U, G, h0, hR, h1, h2 => by
    have hn := G.2.2.1
    have hl : ∀ x ∈ l, x < 1000 := fun x hx => by have := G.1 x hx; omega
    obtain ⟨ha, fa, laa, ea, Ua, Ga, ga⟩ := findPair_t U G.1 (by omega)
    have hg : grw (f + 1) n l P = if (bp l n).1 ≤ 1 then (n, l, P) else grw f (n + 1) (jnL (bp l n).2.1 (bp l n).2.2 (16 + n) l) (updP P n (bp l n).2) := rfl
    rw [F_X5_squeeze_15, U.gr.2.1, Option.bind_some, U.ln, Option.bind_some, if_neg (nI_ge (by omega) (by omega)), ea, Option.bind_some]
    by_cases c : (bp l n).1 ≤ 1
    · rw [if_pos c] at hg
      rw [hg]
      refine ⟨ha, fa, laa, sp, R, ?_, Ua, Ga, G, hR, by show n ≤ 11; omega⟩
      show (if bI (decide (1 < (bp l n).1)) = 0 then _ else _) = _
      rw [decide_eq_false (by omega), if_pos (show bI false = 0 from rfl)]
    · rw [if_neg c] at hg
      rw [hg]
      obtain ⟨b1, b2, b3⟩ := bp_grow G c
      obtain ⟨G', h0'⟩ := GI_step G b1 b2 b3
      obtain ⟨g1, g2⟩ := ga (by omega)
      subst g1 g2
      obtain ⟨hb, eb, rb, Gb⟩ := (Ua.2.2.2.2 n (by omega)).emp
      have Ub := Ua.part (by omega) Gb rb
      have rb' : LR hb (36 + 2 * n) [] := rb
      obtain ⟨hc, ec, rc, Gc⟩ := rb'.add (by show 0 < 24; omega) (bp l n).2.1
      have Uc := Ub.part (by omega) Gc rc
      obtain ⟨hd, ed, rd, Gd⟩ := LR.add (h := hc) (a := 36 + 2 * n) (l := [] ++ [(bp l n).2.1]) rc (by show 1 < 24; omega) (bp l n).2.2
      have Ud := Uc.part (by omega) Gd rd
      obtain ⟨he, spe, ee, Ue, Ge⟩ := join_t (c := 16 + n) hl (by omega) (by omega) Ud
      obtain ⟨hf, ef, Uf, Gf⟩ := Ue.p3 (n + 1)
      obtain ⟨h', fo', la', sp', R', e', U', G2, g⟩ := grow_loop hN f q (n + 1) _ (updP P n (bp l n).2) hf _ _ spe _ Uf G' (Or.inr h0') (fun j hj => by
        show (if j = n then ([] ++ [(bp l n).2.1]) ++ [(bp l n).2.2] else if j = n then _ else if j = n then _ else R j) = _
        by_cases z : j = n
        · rw [if_pos z, z, updP_self]; rfl
        · rw [if_neg z, if_neg z, if_neg z, updP_ne z]; exact hR j (by omega)) (by omega) (by omega)
      refine ⟨h', fo', la', sp', R', ?_, U', ?_, g⟩
      · show (if bI (decide (1 < (bp l n).1)) = 0 then _ else _) = _
        rw [decide_eq_true (by omega), if_neg (show ¬ bI true = 0 by decide), Ua.gr.2.1, Option.bind_some, Ua.al (by omega), Option.bind_some, eb, Option.bind_some, Ub.gr.2.1, Option.bind_some, Ub.al (by omega), Option.bind_some, Ub.gr.2.2.2.2.1, Option.bind_some, ec, Option.bind_some, Uc.gr.2.1, Option.bind_some, Uc.al (by omega), Option.bind_some, Uc.gr.2.2.2.2.2, Option.bind_some, ed, Option.bind_some, show (16 : Int32) = nI 16 from rfl, nI_add, ee, Option.bind_some, Ue.gr.2.2.2.1, Option.bind_some, nI_1, ef, Option.bind_some]
        exact e'
      · have m3 : ∀ {u v : am_H}, Fr (fun q => q = 36 + 2 * n ∨ q = 36 + 2 * n + 1) u v → Fr inU u v := fun z => z.mono (fun q y => by unfold inU; omega)
        exact (((((Ga.tr (m3 Gb) (T := inU) (fun _ z => z) (fun _ z => z)).tr (m3 Gc) (T := inU) (fun _ z => z) (fun _ z => z)).tr (m3 Gd) (T := inU) (fun _ z => z) (fun _ z => z)).tr Ge (T := inU) (fun _ z => z) (fun _ z => z)).tr Gf (T := inU) (fun _ z => z) (fun _ z => z)).tr G2 (fun _ z => z) (fun _ z => z)
theorem squeezeU_t {h : am_H} {m a n : Nat} {fo la : Int32} {l sp : List Nat} {R : Nat → List Nat} {s : Nat → Nat} (r : SgAt h a n s) (U : UA h m fo la l sp R) : ∃ h' fo' la' sp' R', F_X5_squeeze 30 a h = some h' ∧ UA h' (gW s n).1 fo' la' (ruC s n).1 sp' R' ∧ Fr inU h h' ∧ (∀ j, j < (gW s n).1 → R' j = (ruC s n).2 j) := by
  have hn := r.2.2.1
  have ha := r.1
  obtain ⟨-, ⟨f, r1, r2⟩, -, hs⟩ := r
  obtain ⟨f0, u1, u2⟩ := U.2.1
  obtain ⟨h1, f1, e1, r3, g1, G1⟩ := become_t (by omega) u1 r1 hn
  have U1 : UA h1 m fo la (sL s n) sp R := U.row G1 ⟨f1, by rw [sL_len]; exact r3, fun j hj => by rw [sL_len] at hj; rw [g1 j hj, r2 j hj, sL_at hj]⟩
  obtain ⟨h2, e2, U2, G2⟩ := U1.p3 0
  obtain ⟨h3, fo3, la3, sp3, R3, e3, U3, G3, g3, k3, n3⟩ := grow_loop hn 12 am_F 0 (sL s n) (fun _ => (0, 0)) h2 fo la sp R U2 (GI_0 hs) (Or.inl rfl) (fun j hj => by omega) (by omega) (by show _ < 100000; omega)
  obtain ⟨C, hP⟩ := GI_CI g3
  obtain ⟨h4, sp4, R4, e4, U4, G4, k4⟩ := clean_loop (by omega) hn hP am_F _ ((gW s n).2.1, fun j => [((gW s n).2.2 j).1, ((gW s n).2.2 j).2]) h3 sp3 R3 U3 k3 C (Nat.le_refl _) (by show _ < 100000; omega)
  refine ⟨h4, fo3, la3, sp4, R4, ?_, U4, (((G1.mono (T := inU) (fun q z => by unfold inU; omega)).tr G2 (T := inU) (fun _ z => z) (fun _ z => z)).tr G3 (T := inU) (fun _ z => z) (fun _ z => z)).tr G4 (fun _ z => z) (fun _ z => z), k4⟩
  unfold F_X5_squeeze F_X5_squeeze_b
  rw [U.1, Option.bind_some, U.gr.1, Option.bind_some, e1, Option.bind_some, show (0 : Int32) = nI 0 from rfl, e2, Option.bind_some, e3]
  unfold F_X5_squeeze_90
  rw [U3.gr.2.2.2.1, Option.bind_some]
  exact e4
/-! what holds of the end -/
theorem gW_ok {s : Nat → Nat} {n : Nat} (hs : ∀ k, k < n → s k < 16) (hn : n ≤ 24) : GI n (gW s n).1 (gW s n).2.1 (gW s n).2.2 ∧ (gW s n).1 ≤ 11 := by
  have key : ∀ (f m : Nat) (l : List Nat) (P : sP), GI n m l P → (m = 0 ∨ 2 ≤ l.length) → m + f = 12 → GI n (grw f m l P).1 (grw f m l P).2.1 (grw f m l P).2.2 ∧ (grw f m l P).1 ≤ 11 := by
    intro f
    induction f with
    | zero => intro m l P G h0 h1; have := G.2.2.1; omega
    | succ f ih =>
      intro m l P G h0 h1
      have hg : grw (f + 1) m l P = if (bp l m).1 ≤ 1 then (m, l, P) else grw f (m + 1) (jnL (bp l m).2.1 (bp l m).2.2 (16 + m) l) (updP P m (bp l m).2) := rfl
      rw [hg]
      have := G.2.2.1
      by_cases c : (bp l m).1 ≤ 1
      · rw [if_pos c]
        exact ⟨G, by show m ≤ 11; omega⟩
      · rw [if_neg c]
        obtain ⟨b1, b2, b3⟩ := bp_grow G c
        obtain ⟨G', h0'⟩ := GI_step G b1 b2 b3
        exact ih _ _ _ G' (Or.inr h0') (by omega)
  exact key 12 0 (sL s n) _ (GI_0 hs) (Or.inl rfl) (by omega)
theorem cln_ok {N n : Nat} {P : sP} (hP : PO N n P) : ∀ k s, k ≤ n → CI N n P k s → CI N n P 0 (cln P n k s)
  | 0, s, _, C => C
  | k + 1, s, hk, C => by
    obtain ⟨C1, C2⟩ := CI_step hP (by omega) C
    unfold cln
    split
    · exact cln_ok hP k _ (by omega) C2
    · exact cln_ok hP k _ (by omega) C1
theorem ruC_ok {s : Nat → Nat} {n : Nat} (hs : ∀ k, k < n → s k < 16) (hn : n ≤ 24) : CI n (gW s n).1 (gW s n).2.2 0 (ruC s n) ∧ (gW s n).1 ≤ 11 := by
  obtain ⟨G, h⟩ := gW_ok hs hn
  obtain ⟨C, hP⟩ := GI_CI G
  exact ⟨cln_ok hP _ _ (Nat.le_refl _) C, h⟩
/-! how many are left; the price -/
def ruL (s : Nat → Nat) (n : Nat) : Nat := cntN (fun j => decide (0 < ((ruC s n).2 j).length)) (gW s n).1
def ruP (s : Nat → Nat) (n : Nat) : Nat := 5 * (ruC s n).1.length + ruL s n + sumN (fun j => 5 * ((ruC s n).2 j).length) (gW s n).1
section UL
variable {h : am_H} {n : Nat} {fo la : Int32} {l sp : List Nat} {R : Nat → List Nat}
theorem UA.lengthOf (U : UA h n fo la l sp R) (hn : n ≤ 12) (i : Int32) : F_X5_lengthOf 30 i h = some (if vd n i then nI (R i.toNatClampNeg).length else -1) := by
  unfold F_X5_lengthOf F_X5_lengthOf_b F_X5_lengthOf_33 F_X5_lengthOf_34
  rw [U.1, Option.bind_some]
  by_cases c : vd n i
  · rw [if_pos c]
    obtain ⟨j, hj, rfl⟩ := nI_of_toInt c.1 c.2
    rw [if_neg (nI_pos (by omega)), U.gr.2.2.2.1, Option.bind_some, if_neg (nI_ge hj (by omega)), U.gr.2.1, Option.bind_some, U.ln, Option.bind_some, if_neg (nI_ge (by omega) (by omega)), Option.bind_some, U.al (by omega), Option.bind_some, (U.2.2.2.2 j (by omega)).len, Option.bind_some, cl_nI (by omega)]
  · rw [if_neg c]
    by_cases c2 : i < 0
    · rw [if_pos c2]
    · rw [if_neg c2, U.gr.2.2.2.1, Option.bind_some]
      obtain ⟨j, hj, rfl⟩ := nI_of c2
      have : n ≤ j := by
        by_cases h3 : j < n
        · exact absurd (vd_nI h3 (by omega)) c
        · omega
      rw [if_pos (nI_le this hj)]
theorem UA.pieceOf (U : UA h n fo la l sp R) (hn : n ≤ 12) (i j : Int32) : F_X5_pieceOf 30 i j h = some (if vd n i ∧ vd (R i.toNatClampNeg).length j then nI (gD (R i.toNatClampNeg) j.toNatClampNeg) else -1) := by
  unfold F_X5_pieceOf F_X5_pieceOf_b F_X5_pieceOf_34 F_X5_pieceOf_35
  rw [U.1, Option.bind_some]
  by_cases c : vd n i
  · obtain ⟨k, hk, rfl⟩ := nI_of_toInt c.1 c.2
    have hle := (U.2.2.2.2 k (by omega)).le
    rw [if_neg (nI_pos (by omega)), U.gr.2.2.2.1, Option.bind_some, if_neg (nI_ge hk (by omega)), U.gr.2.1, Option.bind_some, U.ln, Option.bind_some, if_neg (nI_ge (by omega) (by omega)), Option.bind_some, U.al (by omega), Option.bind_some, cl_nI (show k < 2 ^ 31 by omega)]
    by_cases c2 : vd (R k).length j
    · rw [if_pos ⟨c, c2⟩]
      obtain ⟨z, hz, rfl⟩ := nI_of_toInt c2.1 c2.2
      rw [(U.2.2.2.2 k (by omega)).at hz, Option.bind_some, cl_nI (by omega)]
    · rw [if_neg (fun z => c2 z.2), (U.2.2.2.2 k (by omega)).out c2, Option.bind_some]
  · rw [if_neg (show ¬ (vd n i ∧ vd (R i.toNatClampNeg).length j) from fun z => c z.1)]
    by_cases c2 : i < 0
    · rw [if_pos c2]
    · rw [if_neg c2, U.gr.2.2.2.1, Option.bind_some]
      obtain ⟨j, hj, rfl⟩ := nI_of c2
      have : n ≤ j := by
        by_cases h3 : j < n
        · exact absurd (vd_nI h3 (by omega)) c
        · omega
      rw [if_pos (nI_le this hj)]
theorem UA.left_loop (U : UA h n fo la l sp R) (hn : n ≤ 12) : ∀ (q k j : Nat), j + k = n → k < q → F_X5_left_4 q 30 (nI (cntN (fun j => decide (0 < (R j).length)) j)) (nI j) h = some (nI (cntN (fun j => decide (0 < (R j).length)) n))
  | 0, k, j, h1, h2 => by omega
  | q + 1, 0, j, h1, h2 => by
    rw [F_X5_left_4, U.gr.2.2.2.1, Option.bind_some, if_pos (nI_le (by omega) (by omega)), show j = n by omega]
  | q + 1, k + 1, j, h1, h2 => by
    have ih := UA.left_loop U hn q k (j + 1) (by omega) (by omega)
    have hle := (U.2.2.2.2 j (by omega)).le
    rw [show cntN (fun j => decide (0 < (R j).length)) (j + 1) = cntN (fun j => decide (0 < (R j).length)) j + bN (decide (0 < (R j).length)) from rfl] at ih
    rw [F_X5_left_4, U.gr.2.2.2.1, Option.bind_some, if_neg (nI_ge (by omega) (by omega)), U.lengthOf hn, Option.bind_some, if_pos (vd_nI (by omega) (by omega)), cl_nI (by omega)]
    unfold F_X5_left_23
    rw [nI_1, nI_1]
    by_cases c : 0 < (R j).length
    · rw [if_neg (nI_nle c (by omega))]
      rw [decide_eq_true c] at ih
      exact ih
    · rw [if_pos (show nI (R j).length ≤ 0 by rw [show (R j).length = 0 by omega]; decide)]
      rw [decide_eq_false c] at ih
      exact ih
theorem UA.left (U : UA h n fo la l sp R) (hn : n ≤ 12) : F_X5_left 30 h = some (nI (cntN (fun j => decide (0 < (R j).length)) n)) := by
  unfold F_X5_left F_X5_left_b
  rw [U.1, Option.bind_some]
  exact U.left_loop hn am_F n 0 (by omega) (by show _ < 100000; omega)
theorem UA.price_loop (U : UA h n fo la l sp R) (hn : n ≤ 12) : ∀ (q k j c : Nat), j + k = n → k < q → F_X5_price_17 q 30 (nI (c + sumN (fun j => 5 * (R j).length) j)) (nI j) h = some (nI (c + sumN (fun j => 5 * (R j).length) n))
  | 0, k, j, c, h1, h2 => by omega
  | q + 1, 0, j, c, h1, h2 => by
    rw [F_X5_price_17, U.gr.2.2.2.1, Option.bind_some, if_pos (nI_le (by omega) (by omega)), show j = n by omega]
  | q + 1, k + 1, j, c, h1, h2 => by
    have ih := UA.price_loop U hn q k (j + 1) c (by omega) (by omega)
    rw [show sumN (fun j => 5 * (R j).length) (j + 1) = sumN (fun j => 5 * (R j).length) j + 5 * (R j).length from rfl, ← Nat.add_assoc] at ih
    rw [F_X5_price_17, U.gr.2.2.2.1, Option.bind_some, if_neg (nI_ge (by omega) (by omega)), U.lengthOf hn, Option.bind_some, if_pos (vd_nI (by omega) (by omega)), cl_nI (by omega), show (5 : Int32) = nI 5 from rfl, nI_mulN, nI_add, nI_1]
    exact ih
theorem UA.price (U : UA h n fo la l sp R) (hn : n ≤ 12) : F_X5_price 30 h = some (nI (5 * l.length + cntN (fun j => decide (0 < (R j).length)) n + sumN (fun j => 5 * (R j).length) n)) := by
  unfold F_X5_price F_X5_price_b
  rw [U.1, Option.bind_some, U.gr.1, Option.bind_some, U.2.1.len, Option.bind_some, U.left hn, Option.bind_some, show (5 : Int32) = nI 5 from rfl, nI_mulN, nI_add]
  exact U.price_loop hn am_F n 0 _ (by omega) (by show _ < 100000; omega)
end UL
