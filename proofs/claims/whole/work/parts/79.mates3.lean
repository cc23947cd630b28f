/-! MATES: the reference's side -/
theorem tb_stab (s : Nat → Nat) (n k q : Nat) (hq : n - k ≤ q) : ∀ j, k + j ≤ n → tb s n (k + j) q = tb s n k q
  | 0, _ => rfl
  | j + 1, h => by
    rw [show k + (j + 1) = k + j + 1 by omega, tb_same s n (k + j) q (by omega)]
    exact tb_stab s n k q hq j (by omega)
theorem ch_cong {s : Nat → Nat} {n p : Nat} {Lf Lg : Nat → Nat} (hp : p < n) (h : ∀ r, p < r → r ≤ n → Lf r = Lg r) : ∀ j, ch s n p Lf j = ch s n p Lg j
  | 0 => by
    unfold ch
    rw [h (p + 1) (by omega) (by omega)]
  | j + 1 => by
    unfold ch
    rw [ch_cong hp h j]
    by_cases c : 0 < near s n p (j + 2)
    · rw [h (p + (j + 2)) (by omega) (near_in c)]
    · rw [if_neg (fun z => c z.1), if_neg (fun z => c z.1)]
theorem tb_ch {s : Nat → Nat} {n p : Nat} (hp : p < n) : tb s n n p = ch s n p (fun r => (tb s n n r).1) 8 := by
  have e1 : tb s n n p = tb s n (n - p) p := by
    have := tb_stab s n (n - p) p (by omega) p (by omega)
    rw [show n - p + p = n by omega] at this
    exact this
  have e2 : tb s n (n - p) p = ch s n p (fun r => (tb s n (n - (p + 1)) r).1) 8 := by
    rw [show n - p = n - (p + 1) + 1 by omega]
    exact if_pos (by omega)
  rw [e1, e2]
  apply ch_cong hp
  intro r h1 h2
  have := tb_stab s n (n - (p + 1)) r (by omega) (p + 1) (by omega)
  rw [show n - (p + 1) + (p + 1) = n by omega] at this
  show (tb s n (n - (p + 1)) r).1 = (tb s n n r).1
  rw [this]
theorem near_any {s : Nat → Nat} {n p L : Nat} : anyN (fun j => mtB s n p L (j + 1)) 15 = true ↔ 0 < near s n p L := by
  constructor
  · intro h
    obtain ⟨j, h1, h2⟩ := anyN_t.mp h
    rcases Nat.eq_zero_or_pos (near s n p L) with c | c
    · exfalso
      have : ∀ k b, b ≤ j + 1 → j + 1 < b + k → 1 ≤ b → 0 < nr s n p L k b := by
        intro k
        induction k with
        | zero => intro b h3 h4; omega
        | succ k ih =>
          intro b h3 h4 h5
          unfold nr
          by_cases z : mtB s n p L b = true
          · rw [if_pos z]; omega
          · rw [if_neg z]
            refine ih (b + 1) ?_ (by omega) (by omega)
            by_cases z2 : b = j + 1
            · exact absurd (by rw [z2]; exact h2) z
            · omega
      have := this 15 1 (by omega) (by omega) (by omega)
      unfold near at c
      omega
    · exact c
  · intro h
    obtain ⟨h1, h2, h3⟩ := nr_pos 15 1 h
    exact anyN_t.mpr ⟨nr s n p L 15 1 - 1, by omega, by
      show mtB s n p L (nr s n p L 15 1 - 1 + 1) = true
      rw [show nr s n p L 15 1 - 1 + 1 = nr s n p L 15 1 by omega]
      exact h1⟩
section MM
variable {X : Fin 87 → am_C} {I : Nat → Int32} {Y : am_H} {S : sS}
theorem isMate_loop {A : Nat → Nat → Int32} (w : WF S) (R : RM S I A) {b p L c : Nat} (hb : b < nb S) (hc : c ≤ p) (hL : p + L ≤ ln S b) : ∀ (q k j : Nat), j + k = L → k < q → F_X9_isMate_28 q 88 (nI b) (nI p) (nI L) (nI c) (bI (allN (fun k => sg S b (p + k) == sg S b (p + k - c)) j)) (nI j) (md X I A Y) = some (bI (allN (fun k => sg S b (p + k) == sg S b (p + k - c)) L))
  | 0, k, j, h1, h2 => by omega
  | q + 1, k, j, h1, h2 => by
    have hl := (w.2.2.1.2 b hb)
    rw [F_X9_isMate_28]
    unfold F_X9_isMate_76 F_X9_isMate_68
    rw [z_b]
    cases k with
    | zero => rw [if_pos (nI_le (by omega) (by omega)), show j = L by omega]
    | succ k =>
      rw [if_neg (nI_ge (by omega) (by omega))]
      cases ha : allN (fun k => sg S b (p + k) == sg S b (p + k - c)) j with
      | false =>
        rw [if_pos (show bI false = 0 from rfl)]
        cases hz : allN (fun k => sg S b (p + k) == sg S b (p + k - c)) L with
        | false => rfl
        | true =>
          have := (allN_t j).mpr (fun i hi => (allN_t L).mp hz i (by omega))
          rw [ha] at this
          cases this
      | true =>
        have s1 := hl.2 (p + j) (by omega)
        have s2 := hl.2 (p + j - c) (by omega)
        have ih := isMate_loop w R hb hc hL q k (j + 1) (by omega) (by omega)
        rw [show allN (fun k => sg S b (p + k) == sg S b (p + k - c)) (j + 1) = (allN (fun k => sg S b (p + k) == sg S b (p + k - c)) j && (sg S b (p + j) == sg S b (p + j - c))) from rfl, ha, Bool.true_and] at ih
        rw [if_neg (show ¬ bI true = 0 by decide), nI_add, A4 w R hb (show p + j < ln S b by omega), Option.bind_some, nI_subN (show c ≤ p + j by omega), A4 w R hb (show p + j - c < ln S b by omega), Option.bind_some, nI_1]
        by_cases e : sg S b (p + j) = sg S b (p + j - c)
        · rw [show (sg S b (p + j) == sg S b (p + j - c)) = true by simpa using e] at ih
          rw [if_pos (by rw [e])]
          exact ih
        · rw [show (sg S b (p + j) == sg S b (p + j - c)) = false by simpa using e] at ih
          rw [if_neg (fun z => e ((nI_eq (by omega) (by omega)).mp z))]
          exact ih
theorem isMate_t {A : Nat → Nat → Int32} (w : WF S) (R : RM S I A) {b p L c : Nat} (hb : b < nb S) (hp : p < 100) (hL : L < 100) (hL0 : 0 < L) (hc : c < 100) : F_X9_isMate 88 (nI b) (nI p) (nI L) (nI c) (md X I A Y) = some (bI (mtB (sg S b) (ln S b) p L c)) := by
  have hl := (w.2.2.1.2 b hb).1
  have f0 : ∀ h : am_H, F_X9_isMate_28 am_F 88 (nI b) (nI p) (nI L) (nI c) 0 0 h = some 0 := fun h => by
    rw [show am_F = 99999 + 1 from rfl, F_X9_isMate_28, if_neg (show ¬ nI L ≤ (0 : Int32) from nI_nle hL0 (by omega)), if_pos rfl]
    rfl
  unfold F_X9_isMate F_X9_isMate_b F_X9_isMate_22 F_X9_isMate_23
  rw [md_obj, Option.bind_some]
  by_cases c1 : p < c
  · rw [if_pos (nI_lt c1 (by omega)), f0, mtB_f (fun z => by omega)]
    rfl
  · rw [if_neg (nI_nlt (by omega) (by omega)), md_gr3, Option.bind_some, A3 w R hb, Option.bind_some, nI_add]
    by_cases c2 : ln S b < p + L
    · rw [if_pos (nI_lt c2 (by omega)), f0, mtB_f (fun z => by omega)]
      rfl
    · rw [if_neg (nI_nlt (by omega) (by omega))]
      have := isMate_loop (X := X) (Y := Y) w R hb (show c ≤ p by omega) (show p + L ≤ ln S b by omega) am_F L 0 (by omega) (by show _ < 100000; omega)
      rw [show allN (fun k => sg S b (p + k) == sg S b (p + k - c)) 0 = true from rfl] at this
      rw [show (1 : Int32) = bI true from rfl, show (0 : Int32) = nI 0 from rfl, this]
      unfold mtB
      rw [decide_eq_true (show c ≤ p by omega), decide_eq_true (show p + L ≤ ln S b by omega), Bool.true_and, Bool.true_and]
theorem cuts_58 {A : Nat → Nat → Int32} {K18 : Nat → Int32 → Int32 → Int32 → am_H → Option am_H} {K37 : Nat → Int32 → Int32 → Int32 → Int32 → Int32 → am_H → Option am_H} (w : WF S) (R : RM S I A) {b p L be : Nat} {T : Nat → Nat} (hb : b < nb S) (hp : p < ln S b) (hL : p + L ≤ ln S b) (hL0 : 2 ≤ L) (hbe : be ≤ 1000) (hT : T (p + L) ≤ 1000) (hA : A 20 (p + L) = nI (T (p + L))) : ∀ (q k j : Nat), j + k = 15 → k < q →
    F_X9_findCuts_58 K18 K37 q 88 (nI b) (nI (ln S b)) (nI p) (nI be) (nI L) (bI (anyN (fun j => mtB (sg S b) (ln S b) p L (j + 1)) j)) (nI (j + 1)) (md X I A Y) = K37 88 (nI b) (nI (ln S b)) (nI p) (nI (if 0 < near (sg S b) (ln S b) p L ∧ 11 + T (p + L) < be then 11 + T (p + L) else be)) (nI (L + 1)) (md X I A Y)
  | 0, k, j, h1, h2 => by omega
  | q + 1, k, j, h1, h2 => by
    have hl := (w.2.2.1.2 b hb).1
    rw [F_X9_findCuts_58]
    unfold F_X9_findCuts_133 F_X9_findCuts_135 F_X9_findCuts_83 F_X9_findCuts_88
    rw [nI_1, nI_1]
    cases k with
    | zero =>
      rw [if_pos (show (16 : Int32) ≤ nI (j + 1) from nI_le (a := 16) (by omega) (by omega)), show j = 15 by omega]
      cases hn : anyN (fun j => mtB (sg S b) (ln S b) p L (j + 1)) 15 with
      | false =>
        rw [if_pos (show bI false = 0 from rfl), if_neg (fun z => by have := near_any.mpr z.1; rw [hn] at this; cases this)]
      | true =>
        have hnn := near_any.mp hn
        rw [if_neg (show ¬ bI true = 0 by decide), md_gr20, Option.bind_some, nI_add, md_il20, ix_nI (show p + L < 25 by omega) (by decide), Option.bind_some, Option.bind_some, hA, show (11 : Int32) = nI 11 from rfl, nI_add]
        by_cases c : 11 + T (p + L) < be
        · rw [if_neg (nI_ge c (by omega)), if_pos ⟨hnn, c⟩, Option.bind_some, md_il20, ix_nI (show p + L < 25 by omega) (by decide), Option.bind_some, Option.bind_some, hA, nI_add]
        · rw [if_pos (nI_le (by omega) (by omega)), if_neg (fun z => c z.2)]
    | succ k =>
      have ih := cuts_58 (K18 := K18) (K37 := K37) w R hb hp hL hL0 hbe hT hA q k (j + 1) (by omega) (by omega)
      rw [show anyN (fun j => mtB (sg S b) (ln S b) p L (j + 1)) (j + 1) = (anyN (fun j => mtB (sg S b) (ln S b) p L (j + 1)) j || mtB (sg S b) (ln S b) p L (j + 1)) from rfl] at ih
      rw [if_neg (show ¬ (16 : Int32) ≤ nI (j + 1) from nI_ge (b := 16) (by omega) (by omega))]
      cases hn : anyN (fun j => mtB (sg S b) (ln S b) p L (j + 1)) j with
      | true =>
        rw [hn, Bool.true_or] at ih
        rw [if_neg (show ¬ bI true = 0 by decide)]
        exact ih
      | false =>
        rw [hn, Bool.false_or] at ih
        rw [if_pos (show bI false = 0 from rfl), isMate_t w R hb (by omega) (by omega) (by omega) (by omega), Option.bind_some]
        cases hm : mtB (sg S b) (ln S b) p L (j + 1) with
        | true => rw [hm] at ih; exact ih
        | false => rw [hm] at ih; exact ih
theorem cuts_37 {A : Nat → Nat → Int32} {K18 : Nat → Int32 → Int32 → Int32 → am_H → Option am_H} (w : WF S) (R : RM S I A) {b p : Nat} {T : Nat → Nat} (hb : b < nb S) (hp : p < ln S b) (hT : ∀ r, T r ≤ 900) (hA : ∀ r, p < r → r ≤ ln S b → A 20 r = nI (T r)) : ∀ (q k j : Nat), j + k = 8 → k < q →
    F_X9_findCuts_37 K18 q 88 (nI b) (nI (ln S b)) (nI p) (nI (ch (sg S b) (ln S b) p T j).1) (nI (j + 2)) (md X I A Y) = K18 88 (nI b) (nI (ln S b)) (nI p - 1) (md X I (upA A 20 p (nI (ch (sg S b) (ln S b) p T 8).1)) Y)
  | 0, k, j, h1, h2 => by omega
  | q + 1, k, j, h1, h2 => by
    have hl := (w.2.2.1.2 b hb).1
    have hc := (ch_le (sg S b) (ln S b) p T j).1
    have hT1 := hT (p + 1)
    have st : ∀ x, F_X9_findCuts_143 K18 88 (nI b) (nI (ln S b)) (nI p) x (md X I A Y) = K18 88 (nI b) (nI (ln S b)) (nI p - 1) (md X I (upA A 20 p x) Y) := fun x => by
      unfold F_X9_findCuts_143
      rw [md_gr20, Option.bind_some, md_is20, ix_nI (show p < 25 by omega) (by decide), Option.bind_some, Option.bind_some, dn_nI]
    rw [F_X9_findCuts_37, st]
    cases k with
    | zero => rw [if_pos (show (10 : Int32) ≤ nI (j + 2) from nI_le (a := 10) (by omega) (by omega)), show j = 8 by omega]
    | succ k =>
      rw [if_neg (show ¬ (10 : Int32) ≤ nI (j + 2) from nI_ge (b := 10) (by omega) (by omega)), nI_add]
      by_cases c1 : ln S b < p + (j + 2)
      · rw [if_pos (nI_lt c1 (by omega))]
        have hst : ∀ i, j ≤ i → ch (sg S b) (ln S b) p T i = ch (sg S b) (ln S b) p T j := by
          intro i
          induction i with
          | zero => intro z; rw [show j = 0 by omega]
          | succ i ih =>
            intro z
            by_cases z2 : j = i + 1
            · rw [z2]
            · rw [← ih (by omega)]
              show (if 0 < near (sg S b) (ln S b) p (i + 2) ∧ 11 + T (p + (i + 2)) < (ch (sg S b) (ln S b) p T i).1 then _ else _) = _
              rw [if_neg (fun q => by have := near_in q.1; omega)]
        rw [hst 8 (by omega)]
      · have ih := cuts_37 (K18 := K18) w R hb hp hT hA q k (j + 1) (by omega) (by omega)
        have e58 := cuts_58 (X := X) (Y := Y) (K18 := K18) (K37 := F_X9_findCuts_37 K18 q) (L := j + 2) (be := (ch (sg S b) (ln S b) p T j).1) (T := T) w R hb hp (by omega) (by omega) (by omega) (by have := hT (p + (j + 2)); omega) (hA _ (by omega) (by omega)) am_F 15 0 (by omega) (by show _ < 100000; omega)
        rw [if_neg (nI_nlt (by omega) (by omega))]
        refine Eq.trans e58 ?_
        rw [← ih]
        have ec : (ch (sg S b) (ln S b) p T (j + 1)).1 = if 0 < near (sg S b) (ln S b) p (j + 2) ∧ 11 + T (p + (j + 2)) < (ch (sg S b) (ln S b) p T j).1 then 11 + T (p + (j + 2)) else (ch (sg S b) (ln S b) p T j).1 := by
          show (if _ then _ else _ : Nat × Nat).1 = _
          split <;> rfl
        rw [ec]
/-! the first piece, looked up by its price -/
theorem piece_32 {A : Nat → Nat → Int32} {K : Nat → Int32 → Int32 → Int32 → am_H → Option Int32} (w : WF S) (R : RM S I A) {b p L : Nat} {T : Nat → Nat} (hb : b < nb S) (hp : p < ln S b) (hL0 : 2 ≤ L) (hL9 : L ≤ 9) (hT : ∀ r, T r ≤ 900) (hA : ∀ r, p ≤ r → r ≤ ln S b → A 20 r = nI (T r)) : ∀ (q k c : Nat), c + k = 16 → 1 ≤ c → k < q →
    F_X9_pieceAt_32 K q 88 (nI b) (nI p) (nI L) (nI c) (md X I A Y) = if 0 < nr (sg S b) (ln S b) p L k c ∧ 11 + T (p + L) = T p then some (nI (16 * L + nr (sg S b) (ln S b) p L k c)) else K 88 (nI b) (nI p) (nI (L + 1)) (md X I A Y)
  | 0, k, c, h1, h2, h3 => by omega
  | q + 1, 0, c, h1, h2, h3 => by
    rw [F_X9_pieceAt_32, if_pos (show (16 : Int32) ≤ nI c from nI_le (a := 16) (by omega) (by omega)), nI_1, if_neg (fun z => by have := z.1; unfold nr at this; omega)]
  | q + 1, k + 1, c, h1, h2, h3 => by
    have hl := (w.2.2.1.2 b hb).1
    have ih := piece_32 (K := K) w R hb hp hL0 hL9 hT hA q k (c + 1) (by omega) (by omega) (by omega)
    rw [F_X9_pieceAt_32, if_neg (show ¬ (16 : Int32) ≤ nI c from nI_ge (b := 16) (by omega) (by omega)), isMate_t w R hb (by omega) (by omega) (by omega) (by omega), Option.bind_some]
    unfold F_X9_pieceAt_79
    rw [nI_1]
    have en : nr (sg S b) (ln S b) p L (k + 1) c = if mtB (sg S b) (ln S b) p L c = true then c else nr (sg S b) (ln S b) p L k (c + 1) := rfl
    rw [en]
    cases hm : mtB (sg S b) (ln S b) p L c with
    | false =>
      rw [if_pos (show bI false = 0 from rfl), if_neg (show ¬ false = true by decide)]
      exact ih
    | true =>
      have hin := (mtB_t.mp hm).2.1
      have t1 := hT (p + L)
      have t2 := hT p
      rw [if_neg (show ¬ bI true = 0 by decide), if_pos (rfl : true = true), md_gr20, Option.bind_some, nI_add, md_il20, ix_nI (show p + L < 25 by omega) (by decide), Option.bind_some, Option.bind_some, Option.bind_some, hA (p + L) (by omega) hin, md_il20, ix_nI (show p < 25 by omega) (by decide), Option.bind_some, Option.bind_some, hA p (by omega) (by omega), show (11 : Int32) = nI 11 from rfl, nI_add]
      by_cases c2 : 11 + T (p + L) = T p
      · rw [if_pos (by rw [c2]), if_pos (show 0 < c ∧ 11 + T (p + L) = T p from ⟨by omega, c2⟩), show (16 : Int32) = nI 16 from rfl, nI_mulN, nI_add]
      · rw [if_neg (fun z => c2 ((nI_eq (by omega) (by omega)).mp z)), if_neg (fun z => c2 z.2), ih, if_neg (fun z => c2 z.2)]
theorem piece_t {A : Nat → Nat → Int32} (w : WF S) (R : RM S I A) {b p : Nat} (hb : b < nb S) (hp : p < ln S b) (hA : ∀ r, p ≤ r → r ≤ ln S b → A 20 r = nI (tb (sg S b) (ln S b) (ln S b) r).1) : F_X9_pieceAt 88 (nI b) (nI p) (md X I A Y) = some (nI (cutT (sg S b) (ln S b) p)) := by
  have hl := (w.2.2.1.2 b hb).1
  have hT : ∀ r, (tb (sg S b) (ln S b) (ln S b) r).1 ≤ 120 := fun r => by have := (tb_le (sg S b) (ln S b) (ln S b) r).1; omega
  have t0 := hT p
  have t1 := hT (p + 1)
  have e := tb_ch (s := sg S b) hp
  have hs := ch_spec (sg S b) (ln S b) p (fun r => (tb (sg S b) (ln S b) (ln S b) r).1) 8
  rw [← e] at hs
  unfold F_X9_pieceAt F_X9_pieceAt_b cutT
  rw [md_obj, Option.bind_some, md_gr20, Option.bind_some, nI_1, md_il20, ix_nI (show p + 1 < 25 by omega) (by decide), Option.bind_some, Option.bind_some, Option.bind_some, hA (p + 1) (by omega) (by omega), md_il20, ix_nI (show p < 25 by omega) (by decide), Option.bind_some, Option.bind_some, hA p (by omega) (by omega), show (5 : Int32) = nI 5 from rfl, nI_add]
  rcases hs with ⟨i1, i2, -⟩ | ⟨L, i1, i2, i3, i4, i5, i6, -⟩
  · rw [if_pos (by rw [i2]), i1]
    rfl
  · rw [if_neg (fun z => by have := (nI_eq (by omega) (by omega)).mp z; omega), i3]
    have loop : ∀ (q k M : Nat), M + k = L → 2 ≤ M → k < q → F_X9_pieceAt_23 q 88 (nI b) (nI p) (nI M) (md X I A Y) = some (nI (16 * L + near (sg S b) (ln S b) p L)) := by
      intro q
      induction q with
      | zero => intro k M h1 h2 h3; omega
      | succ q ih =>
        intro k M h1 h2 h3
        rw [F_X9_pieceAt_23, if_neg (show ¬ (10 : Int32) ≤ nI M from nI_ge (b := 10) (by omega) (by omega))]
        refine Eq.trans (piece_32 (T := fun r => (tb (sg S b) (ln S b) (ln S b) r).1) w R hb hp h2 (by omega) (fun r => by have := hT r; show (tb (sg S b) (ln S b) (ln S b) r).1 ≤ 900; omega) hA am_F 15 1 (by omega) (by omega) (by show _ < 100000; omega)) ?_
        show (if 0 < near (sg S b) (ln S b) p M ∧ 11 + (tb (sg S b) (ln S b) (ln S b) (p + M)).1 = (tb (sg S b) (ln S b) (ln S b) p).1 then some (nI (16 * M + near (sg S b) (ln S b) p M)) else _) = _
        cases k with
        | zero =>
          have eM : M = L := by omega
          subst eM
          rw [if_pos ⟨i2, i4.symm⟩]
        | succ k =>
          rw [if_neg (fun z => by have := i6 M h2 (by omega) z.1; omega)]
          exact ih k (M + 1) (by omega) (by omega) (by omega)
    exact loop am_F (L - 2) 2 (by omega) (by omega) (by show _ < 100000; omega)
theorem walk_t (w : WF S) {b : Nat} (hb : b < nb S) : ∀ (q z p m : Nat) (I : Nat → Int32) (A : Nat → Nat → Int32) (g : Nat → Nat), RM S I A → (∀ r, r ≤ ln S b → A 20 r = nI (tb (sg S b) (ln S b) (ln S b) r).1) → I 22 = nI m → m ≤ p → m ≤ ln S b → p ≤ 1000 → ln S b + 1 ≤ p + q → 1 ≤ q → ln S b ≤ p + z → (∀ j, j < m → A 21 j = nI (g j)) →
    ∃ I' A', F_X9_findCuts_164 q 88 (nI b) (nI (ln S b)) (nI p) (md X I A Y) = some (md X I' A' Y) ∧ (∀ k, k ≠ 22 → I' k = I k) ∧ (∀ k, k ≠ 21 → A' k = A k) ∧ I' 22 = nI (pw (cutT (sg S b) (ln S b)) (ln S b) z p m g).1 ∧ (∀ j, j < (pw (cutT (sg S b) (ln S b)) (ln S b) z p m g).1 → A' 21 j = nI ((pw (cutT (sg S b) (ln S b)) (ln S b) z p m g).2 j))
  | 0, z, p, m, I, A, g, R, hA, hI, h1, h2, hp, h3, h4, h5, h6 => by omega
  | q + 1, z, p, m, I, A, g, R, hA, hI, h1, h2, hp, h3, h4, h5, h6 => by
    have hl := (w.2.2.1.2 b hb).1
    rw [F_X9_findCuts_164]
    by_cases c : ln S b ≤ p
    · rw [if_pos (nI_le c (by omega))]
      have e : pw (cutT (sg S b) (ln S b)) (ln S b) z p m g = (m, g) := by
        cases z with
        | zero => rfl
        | succ z => exact if_pos c
      rw [e]
      exact ⟨I, A, rfl, fun _ _ => rfl, fun _ _ => rfl, hI, h6⟩
    · have hT2 : cutT (sg S b) (ln S b) p ≤ 159 := (tb_le (sg S b) (ln S b) (ln S b) p).2
      have hs := (stp_pos (s := sg S b) (show p < ln S b by omega))
      have hst : stp (cutT (sg S b) (ln S b) p) ≤ 159 := by unfold stp; split <;> omega
      rw [if_neg (nI_ge (by omega) (by omega)), piece_t w R hb (by omega) (fun r _ h => hA r h), Option.bind_some, md_gr21, Option.bind_some, md_gi22, Option.bind_some, hI, md_is21, ix_nI (show m < 24 by omega) (by decide), Option.bind_some, Option.bind_some, md_gi22, Option.bind_some, hI, nI_1, md_pi22, Option.bind_some]
      obtain ⟨z', ez⟩ : ∃ z', z = z' + 1 := ⟨z - 1, by omega⟩
      subst ez
      have e : pw (cutT (sg S b) (ln S b)) (ln S b) (z' + 1) p m g = pw (cutT (sg S b) (ln S b)) (ln S b) z' (p + stp (cutT (sg S b) (ln S b) p)) (m + 1) (updN g m (cutT (sg S b) (ln S b) p)) := if_neg c
      rw [e]
      have est : (if nI (cutT (sg S b) (ln S b) p) = 0 then F_X9_findCuts_213 (F_X9_findCuts_164 q) 88 (nI b) (nI (ln S b)) (nI p) 1 (md X (upd I 22 (nI (m + 1))) (upA A 21 m (nI (cutT (sg S b) (ln S b) p))) Y) else F_X9_findCuts_213 (F_X9_findCuts_164 q) 88 (nI b) (nI (ln S b)) (nI p) (nI (cutT (sg S b) (ln S b) p) / 16) (md X (upd I 22 (nI (m + 1))) (upA A 21 m (nI (cutT (sg S b) (ln S b) p))) Y)) = F_X9_findCuts_164 q 88 (nI b) (nI (ln S b)) (nI (p + stp (cutT (sg S b) (ln S b) p))) (md X (upd I 22 (nI (m + 1))) (upA A 21 m (nI (cutT (sg S b) (ln S b) p))) Y) := by
        unfold F_X9_findCuts_213 stp
        by_cases c0 : cutT (sg S b) (ln S b) p = 0
        · rw [if_pos (by rw [c0]; rfl), if_pos c0, nI_1]
        · rw [if_neg (nI_ne0 (by omega) (by omega)), if_neg c0, show (16 : Int32) = nI 16 from rfl, nI_div (by omega) (by omega), nI_add]
      rw [est]
      obtain ⟨I', A', e', i1, i2, i3, i4⟩ := walk_t w hb q z' (p + stp (cutT (sg S b) (ln S b) p)) (m + 1) (upd I 22 (nI (m + 1))) (upA A 21 m (nI (cutT (sg S b) (ln S b) p))) (updN g m (cutT (sg S b) (ln S b) p)) (RM_A (RM_I R rfl rfl rfl rfl) (fun k hk => upA_ne (by omega))) (fun r hr => by rw [upA_ne (by decide)]; exact hA r hr) rfl (by omega) (by omega) (by omega) (by omega) (by omega) (by omega) (fun j hj => by
        rw [upA_self]
        show (if j = m then _ else _) = nI (if j = m then _ else _)
        by_cases z : j = m
        · rw [if_pos z, if_pos z]
        · rw [if_neg z, if_neg z]; exact h6 j (by omega))
      exact ⟨I', A', e', fun k hk => (i1 k hk).trans (upd_ne hk), fun k hk => (i2 k hk).trans (upA_ne hk), i3, i4⟩
theorem down_t (w : WF S) {b : Nat} (hb : b < nb S) : ∀ (q p : Nat) (I : Nat → Int32) (A : Nat → Nat → Int32), RM S I A → p ≤ ln S b → p < q → (∀ r, p ≤ r → r ≤ ln S b → A 20 r = nI (tb (sg S b) (ln S b) (ln S b - p) r).1) →
    ∃ I' A', F_X9_findCuts_18 q 88 (nI b) (nI (ln S b)) (nI p - 1) (md X I A Y) = some (md X I' A' Y) ∧ (∀ k, k ≠ 22 → I' k = I k) ∧ (∀ k, k ≠ 20 → k ≠ 21 → A' k = A k) ∧ I' 22 = nI (cutP (sg S b) (ln S b)).1 ∧ (∀ j, j < (cutP (sg S b) (ln S b)).1 → A' 21 j = nI ((cutP (sg S b) (ln S b)).2 j)) ∧ A' 20 0 = nI (tb (sg S b) (ln S b) (ln S b) 0).1
  | 0, p, I, A, R, h1, h2, h3 => by omega
  | q + 1, 0, I, A, R, h1, h2, h3 => by
    have hl := (w.2.2.1.2 b hb).1
    rw [F_X9_findCuts_18, if_pos m1_lt, md_pi22, Option.bind_some]
    obtain ⟨I', A', e, i1, i2, i3, i4⟩ := walk_t (X := X) (Y := Y) w hb am_F (ln S b + 1) 0 0 (upd I 22 0) A (fun _ => 0) (RM_I R rfl rfl rfl rfl) (fun r hr => h3 r (by omega) hr) rfl (by omega) (by omega) (by omega) (by show _ ≤ 0 + 100000; omega) (by show 1 ≤ 100000; omega) (by omega) (fun j hj => by omega)
    exact ⟨I', A', e, fun k hk => (i1 k hk).trans (upd_ne hk), fun k _ hk => i2 k hk, i3, i4, by rw [i2 20 (by decide)]; exact h3 0 (by omega) (by omega)⟩
  | q + 1, p + 1, I, A, R, h1, h2, h3 => by
    have hl := (w.2.2.1.2 b hb).1
    have hT : ∀ r, (tb (sg S b) (ln S b) (ln S b - (p + 1)) r).1 ≤ 120 := fun r => by have := (tb_le (sg S b) (ln S b) (ln S b - (p + 1)) r).1; omega
    rw [F_X9_findCuts_18, pre_nI, if_neg (nI_pos (by omega)), md_gr20, Option.bind_some, nI_1, md_il20, ix_nI (show p + 1 < 25 by omega) (by decide), Option.bind_some, Option.bind_some, h3 (p + 1) (by omega) (by omega), show (5 : Int32) = nI 5 from rfl, nI_add]
    have e37 := cuts_37 (X := X) (Y := Y) (K18 := F_X9_findCuts_18 q) (T := fun r => (tb (sg S b) (ln S b) (ln S b - (p + 1)) r).1) w R hb (show p < ln S b by omega) (fun r => by have := hT r; show (tb (sg S b) (ln S b) (ln S b - (p + 1)) r).1 ≤ 900; omega) (fun r h4 h5 => h3 r (by omega) h5) am_F 8 0 (by omega) (by show _ < 100000; omega)
    have hnew : tb (sg S b) (ln S b) (ln S b - p) p = ch (sg S b) (ln S b) p (fun q => (tb (sg S b) (ln S b) (ln S b - (p + 1)) q).1) 8 := by
      rw [show ln S b - p = ln S b - (p + 1) + 1 by omega]
      exact if_pos (by omega)
    have hold : ∀ r, r ≠ p → tb (sg S b) (ln S b) (ln S b - p) r = tb (sg S b) (ln S b) (ln S b - (p + 1)) r := fun r hr => by
      rw [show ln S b - p = ln S b - (p + 1) + 1 by omega]
      exact tb_same (sg S b) (ln S b) _ r (by omega)
    obtain ⟨I', A', e, i1, i2, i3⟩ := down_t w hb q p I (upA A 20 p (nI (ch (sg S b) (ln S b) p (fun q => (tb (sg S b) (ln S b) (ln S b - (p + 1)) q).1) 8).1)) (RM_A R (fun k hk => upA_ne (by omega))) (by omega) (by omega) (fun r h4 h5 => by
      rw [upA_self]
      by_cases z : r = p
      · rw [z, upd_self, hnew]
      · rw [upd_ne z, hold r z]; exact h3 r (by omega) h5)
    exact ⟨I', A', e37.trans e, i1, fun k h4 h5 => (i2 k h4 h5).trans (upA_ne h4), i3⟩
theorem findCuts_t {A : Nat → Nat → Int32} (w : WF S) (R : RM S I A) {b : Nat} (hb : b < nb S) : ∃ I' A', F_X9_findCuts 88 (nI b) (md X I A Y) = some (md X I' A' Y) ∧ (∀ k, k ≠ 22 → I' k = I k) ∧ (∀ k, k ≠ 20 → k ≠ 21 → A' k = A k) ∧ I' 22 = nI (cutP (sg S b) (ln S b)).1 ∧ (∀ j, j < (cutP (sg S b) (ln S b)).1 → A' 21 j = nI ((cutP (sg S b) (ln S b)).2 j)) ∧ A' 20 0 = nI (tb (sg S b) (ln S b) (ln S b) 0).1 := by
  have hl := (w.2.2.1.2 b hb).1
  unfold F_X9_findCuts F_X9_findCuts_b
  rw [md_obj, Option.bind_some, md_gr3, Option.bind_some, A3 w R hb, Option.bind_some, md_gr20, Option.bind_some, md_is20, ix_nI (show ln S b < 25 by omega) (by decide), Option.bind_some, Option.bind_some]
  obtain ⟨I', A', e, i1, i2, i3⟩ := down_t (X := X) (Y := Y) w hb am_F (ln S b) I (upA A 20 (ln S b) 0) (RM_A R (fun k hk => upA_ne (by omega))) (Nat.le_refl _) (by show _ < 100000; omega) (fun r h1 h2 => by
    rw [upA_self, show r = ln S b by omega, upd_self, Nat.sub_self]; rfl)
  exact ⟨I', A', e, i1, fun k h4 h5 => (i2 k h4 h5).trans (upA_ne h4), i3⟩
end MM
