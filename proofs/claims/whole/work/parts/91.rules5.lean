/-! RULES: the reference's side -/
def ChU (I I' : Nat → Int32) (A A' : Nat → Nat → Int32) : Prop := (∀ k, k ≠ 24 → k ≠ 25 → I' k = I k) ∧ ∀ k, k ≠ 23 → k ≠ 26 → k ≠ 27 → A' k = A k
theorem ChU.rf {I : Nat → Int32} {A : Nat → Nat → Int32} : ChU I I A A := ⟨fun _ _ _ => rfl, fun _ _ _ _ => rfl⟩
theorem ChU.tr {I I1 I2 : Nat → Int32} {A A1 A2 : Nat → Nat → Int32} (a : ChU I I1 A A1) (b : ChU I1 I2 A1 A2) : ChU I I2 A A2 := ⟨fun k h1 h2 => (b.1 k h1 h2).trans (a.1 k h1 h2), fun k h1 h2 h3 => (b.2 k h1 h2 h3).trans (a.2 k h1 h2 h3)⟩
theorem ChU.rm {S : sS} {I I' : Nat → Int32} {A A' : Nat → Nat → Int32} (c : ChU I I' A A') (R : RM S I A) : RM S I' A' := RM_IA R (fun k hk => c.1 k (by omega) (by omega)) (fun q hq => c.2 q (by omega) (by omega) (by omega))
def RowM (A : Nat → Nat → Int32) (l : List Nat) : Prop := ∀ j, j < l.length → A 23 j = nI (gD l j)
def RulM (A : Nat → Nat → Int32) (n : Nat) (R : Nat → List Nat) : Prop := ∀ k, k < n → A 26 k = nI (R k).length ∧ ∀ j, j < (R k).length → A 27 (24 * k + j) = nI (gD (R k) j)
def MU (I : Nat → Int32) (A : Nat → Nat → Int32) (l : List Nat) (n : Nat) (R : Nat → List Nat) : Prop := (I 24 = nI l.length ∧ RowM A l) ∧ I 25 = nI n ∧ RulM A n R
section UM
variable {X : Fin 87 → am_C} {Y : am_H}
theorem twice_loop {I : Nat → Int32} {A : Nat → Nat → Int32} {l : List Nat} (hI : I 24 = nI l.length) (hA : RowM A l) (hle : l.length ≤ 24) (hl : ∀ x ∈ l, x < 1000) {a b : Nat} (ha : a < 1000) (hb : b < 1000) : ∀ (q c : Nat) (l1 l2 : List Nat), l1 ++ l2 = l → l2.length < q → F_X9_standsTwice_5 q 88 (nI a) (nI b) (nI c) (nI l1.length) (md X I A Y) = some (nI (c + twL a b l2))
  | 0, c, l1, l2, h1, h2 => by omega
  | q + 1, c, l1, [], h1, h2 => by
    have hL : l.length = l1.length := by rw [← h1]; simp
    rw [F_X9_standsTwice_5, md_gi24, Option.bind_some, hI, nI_1, if_pos (nI_le (by omega) (by omega))]
    rfl
  | q + 1, c, l1, [x], h1, h2 => by
    have hL : l.length = l1.length + 1 := by rw [← h1]; simp
    rw [F_X9_standsTwice_5, md_gi24, Option.bind_some, hI, nI_1, if_pos (nI_le (by omega) (by omega))]
    rfl
  | q + 1, c, l1, x :: y :: t, h1, h2 => by
    have hL : l.length = l1.length + (t.length + 1 + 1) := by rw [← h1]; simp
    have h2' : t.length + 1 + 1 < q + 1 := h2
    have ex : gD l l1.length = x := by rw [← h1]; exact gD_at
    have ey : gD l (l1.length + 1) = y := by rw [← h1]; exact gD_at1
    have hx : x < 1000 := hl x (by rw [← h1]; simp)
    have hy : y < 1000 := hl y (by rw [← h1]; simp)
    have i1 := twice_loop hI hA hle hl ha hb q (c + 1) (l1 ++ [x, y]) t (by rw [← h1]; simp) (by omega)
    have i2 := twice_loop hI hA hle hl ha hb q c (l1 ++ [x]) (y :: t) (by rw [← h1]; simp) (by show t.length + 1 < q; omega)
    rw [List.length_append] at i1 i2
    have i1' : F_X9_standsTwice_5 q 88 (nI a) (nI b) (nI (c + 1)) (nI (l1.length + 2)) (md X I A Y) = some (nI (c + 1 + twL a b t)) := i1
    have i2' : F_X9_standsTwice_5 q 88 (nI a) (nI b) (nI c) (nI (l1.length + 1)) (md X I A Y) = some (nI (c + twL a b (y :: t))) := i2
    have no : F_X9_standsTwice_44 (F_X9_standsTwice_5 q) 88 (nI a) (nI b) (nI c) (nI l1.length) (md X I A Y) = some (nI (c + twL a b (y :: t))) := by
      unfold F_X9_standsTwice_44 F_X9_standsTwice_45 F_X9_standsTwice_67
      rw [one_spec, Option.bind_some, if_pos rfl, oneI_z, nI_add, nI_1]
      exact i2'
    have yes : F_X9_standsTwice_45 (F_X9_standsTwice_5 q) 88 (nI a) (nI b) (nI c) (nI l1.length) 1 (md X I A Y) = some (nI (c + 1 + twL a b t)) := by
      unfold F_X9_standsTwice_45 F_X9_standsTwice_67
      rw [one_spec, Option.bind_some, if_neg i1ne0, oneI_1, nI_add, show (2 : Int32) = nI 2 from rfl, nI_add]
      exact i1'
    rw [F_X9_standsTwice_5, md_gi24, Option.bind_some, hI, nI_1, if_neg (nI_ge (by omega) (by omega)), md_gr23, Option.bind_some, md_il23, ix_nI (show l1.length < 24 by omega) (by decide), Option.bind_some, Option.bind_some, hA _ (by omega), ex]
    unfold twL
    by_cases c1 : x = a
    · rw [if_pos (by rw [c1]), Option.bind_some, md_il23, ix_nI (show l1.length + 1 < 24 by omega) (by decide), Option.bind_some, Option.bind_some, hA _ (by omega), ey]
      by_cases c2 : y = b
      · rw [if_pos (by rw [c2]), if_pos ⟨c1, c2⟩, yes]
        congr 2
        omega
      · rw [if_neg (fun z => c2 ((nI_eq (by omega) (by omega)).mp z)), if_neg (show ¬ (x = a ∧ y = b) from fun z => c2 z.2), no]
    · rw [if_neg (fun z => c1 ((nI_eq (by omega) (by omega)).mp z)), if_neg (show ¬ (x = a ∧ y = b) from fun z => c1 z.1), no]
theorem twice_t {I : Nat → Int32} {A : Nat → Nat → Int32} {l : List Nat} (hI : I 24 = nI l.length) (hA : RowM A l) (hle : l.length ≤ 24) (hl : ∀ x ∈ l, x < 1000) {a b : Nat} (ha : a < 1000) (hb : b < 1000) : F_X9_standsTwice 88 (nI a) (nI b) (md X I A Y) = some (nI (twL a b l)) := by
  unfold F_X9_standsTwice F_X9_standsTwice_b
  rw [md_obj, Option.bind_some]
  have := twice_loop (X := X) (Y := Y) hI hA hle hl ha hb am_F 0 [] l rfl (by show _ < 100000; omega)
  rw [Nat.zero_add] at this
  exact this
/-! the pair is sought -/
def beI (s : Nat × Nat × Nat) : Int32 := if s.1 ≤ 1 then -1 else nI (64 * s.2.1 + s.2.2)
theorem bpF_le {l : List Nat} {x : Nat} {s : Nat × Nat × Nat} (h : 1 ≤ s.1 ∧ s.1 ≤ 100) (hl : l.length ≤ 24) : ∀ y, 1 ≤ (bpF l x s y).1 ∧ (bpF l x s y).1 ≤ 100
  | 0 => h
  | y + 1 => by
    have ih := bpF_le (x := x) h hl y
    have := tw_le x y l
    show 1 ≤ (if (bpF l x s y).1 < twL x y l then (twL x y l, x, y) else bpF l x s y).1 ∧ (if (bpF l x s y).1 < twL x y l then (twL x y l, x, y) else bpF l x s y).1 ≤ 100
    split
    · show 1 ≤ twL x y l ∧ twL x y l ≤ 100
      omega
    · exact ih
theorem bpG_le {l : List Nat} {c : Nat} (hl : l.length ≤ 24) : ∀ x, 1 ≤ (bpG l c x).1 ∧ (bpG l c x).1 ≤ 100
  | 0 => ⟨Nat.le_refl _, by show 1 ≤ 100; omega⟩
  | x + 1 => bpF_le (bpG_le hl x) hl c
theorem seek_72 {K45 : Nat → Int32 → am_H → Option am_H} {K57 : Nat → Int32 → Int32 → Int32 → am_H → Option am_H} {I : Nat → Int32} {A : Nat → Nat → Int32} {l : List Nat} {n x : Nat} {s : Nat × Nat × Nat} (hI : I 24 = nI l.length) (hA : RowM A l) (hI2 : I 25 = nI n) (hle : l.length ≤ 24) (hl : ∀ x ∈ l, x < 1000) (hn : n < 100) (hx : x < 16 + n) (hs : 1 ≤ s.1 ∧ s.1 ≤ 100) : ∀ (q k y : Nat), y + k = 16 + n → k < q →
    F_X9_findRules_72 K45 K57 q 88 (nI (bpF l x s y).1) (beI (bpF l x s y)) (nI x) (nI y) (md X I A Y) = K57 88 (nI (bpF l x s (16 + n)).1) (beI (bpF l x s (16 + n))) (nI (x + 1)) (md X I A Y)
  | 0, k, y, h1, h2 => by omega
  | q + 1, 0, y, h1, h2 => by
    rw [F_X9_findRules_72, md_gi25, Option.bind_some, hI2, show (16 : Int32) = nI 16 from rfl, nI_add, if_pos (nI_le (by omega) (by omega)), nI_1, show y = 16 + n by omega]
  | q + 1, k + 1, y, h1, h2 => by
    have ih := seek_72 (K45 := K45) (K57 := K57) hI hA hI2 hle hl hn hx hs q k (y + 1) (by omega) (by omega)
    have hb := bpF_le (x := x) hs hle y
    have htw := tw_le x y l
    have hu : bpF l x s (y + 1) = if (bpF l x s y).1 < twL x y l then (twL x y l, x, y) else bpF l x s y := rfl
    rw [F_X9_findRules_72, md_gi25, Option.bind_some, hI2, show (16 : Int32) = nI 16 from rfl, nI_add, if_neg (nI_ge (by omega) (by omega)), twice_t hI hA hle hl (by omega) (by omega), Option.bind_some]
    unfold F_X9_findRules_113
    rw [nI_1]
    by_cases c : (bpF l x s y).1 < twL x y l
    · rw [if_pos c] at hu
      rw [hu] at ih
      rw [if_neg (nI_ge c (by omega)), show (64 : Int32) = nI 64 from rfl, nI_mulN, nI_add]
      have eb : beI (twL x y l, x, y) = nI (64 * x + y) := if_neg (by show ¬ twL x y l ≤ 1; omega)
      rw [eb] at ih
      exact ih
    · rw [if_neg c] at hu
      rw [hu] at ih
      rw [if_pos (nI_le (by omega) (by omega))]
      exact ih
theorem seek_57 {K45 : Nat → Int32 → am_H → Option am_H} {I : Nat → Int32} {A : Nat → Nat → Int32} {l : List Nat} {n : Nat} (hI : I 24 = nI l.length) (hA : RowM A l) (hI2 : I 25 = nI n) (hle : l.length ≤ 24) (hl : ∀ x ∈ l, x < 1000) (hn : n < 100) : ∀ (q k x : Nat), x + k = 16 + n → k < q →
    F_X9_findRules_57 K45 q 88 (nI (bpG l (16 + n) x).1) (beI (bpG l (16 + n) x)) (nI x) (md X I A Y) = F_X9_findRules_135 K45 88 (beI (bp l n)) (bI (decide (1 < (bp l n).1))) (md X I A Y)
  | 0, k, x, h1, h2 => by omega
  | q + 1, 0, x, h1, h2 => by
    rw [F_X9_findRules_57, md_gi25, Option.bind_some, hI2, show (16 : Int32) = nI 16 from rfl, nI_add, if_pos (nI_le (by omega) (by omega)), show x = 16 + n by omega]
    unfold beI
    obtain ⟨s1, s2⟩ := bpG_ok l (16 + n) (16 + n)
    by_cases c : (bp l n).1 ≤ 1
    · rw [if_pos c, if_pos (by decide), decide_eq_false (by omega)]; rfl
    · have hab : (bpG l (16 + n) (16 + n)).2.1 < 16 + n ∧ (bpG l (16 + n) (16 + n)).2.2 < 16 + n := by
        rcases s2 with e | ⟨-, -, a3, -⟩
        · exact absurd (Nat.le_of_eq e) c
        · exact a3
      rw [if_neg c, decide_eq_true (show 1 < (bp l n).1 by omega), if_neg (nI_pos (by omega))]; rfl
  | q + 1, k + 1, x, h1, h2 => by
    have ih := seek_57 (K45 := K45) hI hA hI2 hle hl hn q k (x + 1) (by omega) (by omega)
    rw [F_X9_findRules_57, md_gi25, Option.bind_some, hI2, show (16 : Int32) = nI 16 from rfl, nI_add, if_neg (nI_ge (by omega) (by omega))]
    exact (seek_72 (K45 := K45) (K57 := F_X9_findRules_57 K45 q) hI hA hI2 hle hl hn (show x < 16 + n by omega) (bpG_le hle x) am_F (16 + n) 0 (by omega) (by show _ < 100000; omega)).trans ih
/-! a rule grows -/
theorem grow_50 {I : Nat → Int32} {a b n L : Nat} (hI : I 24 = nI L) (hL : L ≤ 24) (ha : a < 1000) (hb : b < 1000) : ∀ (q k : Nat) (l2 acc : List Nat) (A : Nat → Nat → Int32), (∀ x ∈ l2, x < 1000) → k + l2.length = L → l2.length < q → acc.length ≤ k → RowM A acc → (∀ j, j < l2.length → A 23 (k + j) = nI (gD l2 j)) →
    ∃ A', F_X9_growRule_50 q 88 (nI a) (nI b) (nI n) (nI acc.length) (nI k) (md X I A Y) = some (md X (upd I 24 (nI (acc ++ jnL a b (16 + n) l2).length)) A' Y) ∧ RowM A' (acc ++ jnL a b (16 + n) l2) ∧ ∀ q, q ≠ 23 → A' q = A q
  | 0, k, l2, acc, A, hl, h1, h2, h3, h4, h5 => by omega
  | q + 1, k, [], acc, A, hl, h1, h2, h3, h4, h5 => by
    have h1' : k = L := h1
    rw [F_X9_growRule_50, md_gi24, Option.bind_some, hI, if_pos (nI_le (by omega) (by omega)), md_pi24, Option.bind_some, show jnL a b (16 + n) [] = [] from rfl, List.append_nil]
    exact ⟨A, rfl, h4, fun _ _ => rfl⟩
  | q + 1, k, x :: t, acc, A, hl, h1, h2, h3, h4, h5 => by
    have h1' : k + (t.length + 1) = L := h1
    have h2' : t.length + 1 < q + 1 := h2
    have hx : x < 1000 := hl x List.mem_cons_self
    have e0 : A 23 k = nI x := h5 0 (by show 0 < t.length + 1; omega)
    have wr : ∀ (v : Nat) (l' : List Nat) (d : Nat), 1 ≤ d → (∀ j, j < l'.length → A 23 (k + d + j) = nI (gD l' j)) → (RowM (upA A 23 acc.length (nI v)) (acc ++ [v])) ∧ (∀ j, j < l'.length → upA A 23 acc.length (nI v) 23 (k + d + j) = nI (gD l' j)) := fun v l' d hd hl' => by
      refine ⟨fun j hj => ?_, fun j hj => ?_⟩
      · rw [List.length_append] at hj
        have hj : j < acc.length + 1 := hj
        rw [upA_self]
        by_cases z : j = acc.length
        · rw [z, upd_self, gD_at]
        · rw [upd_ne z, gD_app1 (by omega)]; exact h4 j (by omega)
      · rw [upA_self, upd_ne (by omega)]; exact hl' j hj
    have one : jnL a b (16 + n) (x :: t) = x :: jnL a b (16 + n) t → ∃ A', F_X9_growRule_98 (F_X9_growRule_50 q) 88 (nI a) (nI b) (nI n) (nI acc.length) (nI k) (md X I A Y) = some (md X (upd I 24 (nI (acc ++ jnL a b (16 + n) (x :: t)).length)) A' Y) ∧ RowM A' (acc ++ jnL a b (16 + n) (x :: t)) ∧ ∀ q, q ≠ 23 → A' q = A q := fun ej => by
      obtain ⟨w1, w2⟩ := wr x t 1 (by omega) (fun j hj => by have := h5 (j + 1) (by show j + 1 < t.length + 1; omega); rw [show k + 1 + j = k + (j + 1) by omega]; exact this)
      obtain ⟨A', e, g1, g2⟩ := grow_50 hI hL ha hb q (k + 1) t (acc ++ [x]) _ (fun y hy => hl y (List.mem_cons_of_mem _ hy)) (by omega) (by omega) (by rw [List.length_append]; show acc.length + 1 ≤ k + 1; omega) w1 w2
      rw [List.append_assoc, List.length_append] at e
      rw [List.append_assoc] at g1
      rw [ej]
      refine ⟨A', ?_, g1, fun q hq => (g2 q hq).trans (upA_ne hq)⟩
      unfold F_X9_growRule_98 F_X9_growRule_99 F_X9_growRule_126 F_X9_growRule_142
      rw [md_gr23, Option.bind_some, if_pos rfl, Option.bind_some, md_il23, ix_nI (show k < 24 by omega) (by decide), Option.bind_some, Option.bind_some, e0, md_is23, ix_nI (show acc.length < 24 by omega) (by decide), Option.bind_some, Option.bind_some, if_pos rfl, nI_1, nI_1]
      exact e
    rw [F_X9_growRule_50, md_gi24, Option.bind_some, hI, if_neg (nI_ge (by omega) (by omega)), Option.bind_some, nI_1]
    cases t with
    | nil =>
      have h9 : k + 1 = L := h1'
      rw [if_pos (nI_le (by omega) (by omega))]
      exact one rfl
    | cons y t =>
      have h9 : k + (t.length + 1 + 1) = L := h1'
      have h8 : t.length + 1 + 1 < q + 1 := h2'
      have hy : y < 1000 := hl y (List.mem_cons_of_mem _ List.mem_cons_self)
      have e1 : A 23 (k + 1) = nI y := h5 1 (by show 1 < t.length + 1 + 1; omega)
      rw [if_neg (nI_ge (by omega) (by omega)), md_gr23, Option.bind_some, md_il23, ix_nI (show k < 24 by omega) (by decide), Option.bind_some, Option.bind_some, e0]
      by_cases c1 : x = a
      · rw [if_pos (by rw [c1]), Option.bind_some, md_il23, ix_nI (show k + 1 < 24 by omega) (by decide), Option.bind_some, Option.bind_some, e1]
        by_cases c2 : y = b
        · rw [if_pos (by rw [c2])]
          obtain ⟨w1, w2⟩ := wr (16 + n) t 2 (by omega) (fun j hj => by have := h5 (j + 1 + 1) (by show j + 1 + 1 < t.length + 1 + 1; omega); rw [show k + 2 + j = k + (j + 1 + 1) by omega]; exact this)
          obtain ⟨A', e, g1, g2⟩ := grow_50 (n := n) hI hL ha hb q (k + 2) t (acc ++ [16 + n]) _ (fun y hy => hl y (List.mem_cons_of_mem _ (List.mem_cons_of_mem _ hy))) (by omega) (by omega) (by rw [List.length_append]; show acc.length + 1 ≤ k + 2; omega) w1 w2
          rw [List.append_assoc, List.length_append] at e
          rw [List.append_assoc] at g1
          rw [show jnL a b (16 + n) (x :: y :: t) = (16 + n) :: jnL a b (16 + n) t from if_pos ⟨c1, c2⟩]
          refine ⟨A', ?_, g1, fun q hq => (g2 q hq).trans (upA_ne hq)⟩
          unfold F_X9_growRule_99 F_X9_growRule_126 F_X9_growRule_142
          rw [md_gr23, Option.bind_some, if_neg i1ne0, show (16 : Int32) = nI 16 from rfl, nI_add 16 n, md_is23, ix_nI (show acc.length < 24 by omega) (by decide), Option.bind_some, Option.bind_some, if_neg i1ne0, nI_1, show (2 : Int32) = nI 2 from rfl, nI_add]
          exact e
        · rw [if_neg (fun z => c2 ((nI_eq (by omega) (by omega)).mp z))]
          exact one (if_neg (fun z => c2 z.2))
      · rw [if_neg (fun z => c1 ((nI_eq (by omega) (by omega)).mp z))]
        exact one (if_neg (fun z => c1 z.1))
theorem growRule_t {I : Nat → Int32} {A : Nat → Nat → Int32} {l : List Nat} {n a b : Nat} {R : Nat → List Nat} (M : MU I A l n R) (hle : l.length ≤ 24) (hl : ∀ x ∈ l, x < 1000) (hn : n < 23) (hR : ∀ j, j < n → (R j).length ≤ 24) (ha : a < 1000) (hb : b < 1000) : ∃ I' A', F_X9_growRule 88 (nI a) (nI b) (md X I A Y) = some (md X I' A' Y) ∧ MU I' A' (jnL a b (16 + n) l) (n + 1) (fun j => if j = n then [a, b] else R j) ∧ ChU I I' A A' := by
  obtain ⟨⟨m1, m2⟩, m3, m4⟩ := M
  have i24 : upd I 25 (nI (n + 1)) 24 = nI l.length := (upd_ne (by decide)).trans m1
  have hA : ∀ q, q ≠ 26 → q ≠ 27 → upA (upA (upA A 26 n (nI 2)) 27 (24 * n) (nI a)) 27 (24 * n + 1) (nI b) q = A q := fun q h1 h2 => by rw [upA_ne h2, upA_ne h2, upA_ne h1]
  obtain ⟨A', e, g1, g2⟩ := grow_50 (X := X) (Y := Y) (I := upd I 25 (nI (n + 1))) (n := n) i24 hle ha hb am_F 0 l [] (upA (upA (upA A 26 n (nI 2)) 27 (24 * n) (nI a)) 27 (24 * n + 1) (nI b)) hl (by omega) (by show _ < 100000; omega) (Nat.le_refl _) (fun j hj => by cases hj) (fun j hj => by rw [hA _ (by decide) (by decide), Nat.zero_add]; exact m2 j hj)
  refine ⟨upd (upd I 25 (nI (n + 1))) 24 (nI (jnL a b (16 + n) l).length), A', ?_, ⟨⟨upd_self, g1⟩, ?_, fun k hk => ?_⟩, ⟨fun k h1 h2 => (upd_ne h1).trans (upd_ne h2), fun k h1 h2 h3 => (g2 k h1).trans (hA k h2 h3)⟩⟩
  · unfold F_X9_growRule F_X9_growRule_b
    rw [md_obj, Option.bind_some, md_gi25, Option.bind_some, Option.bind_some, m3, nI_1, md_pi25, Option.bind_some, md_gr26, Option.bind_some, md_is26, ix_nI (show n < 24 by omega) (by decide), Option.bind_some, Option.bind_some, md_gr27, Option.bind_some, show (24 : Int32) = nI 24 from rfl, nI_mulN, md_is27, ix_nI (show 24 * n < 576 by omega) (by decide), Option.bind_some, Option.bind_some, md_gr27, Option.bind_some, nI_1, md_is27, ix_nI (show 24 * n + 1 < 576 by omega) (by decide), Option.bind_some, Option.bind_some]
    exact e
  · exact (upd_ne (by decide)).trans upd_self
  · show A' 26 k = nI (if k = n then [a, b] else R k).length ∧ ∀ j, j < (if k = n then [a, b] else R k).length → A' 27 (24 * k + j) = nI (gD (if k = n then [a, b] else R k) j)
    have e26 : A' 26 = upd (A 26) n (nI 2) := by rw [g2 _ (by decide), upA_ne (by decide), upA_ne (by decide), upA_self]
    have e27 : A' 27 = upd (upd (A 27) (24 * n) (nI a)) (24 * n + 1) (nI b) := by rw [g2 _ (by decide), upA_self, upA_self, upA_ne (by decide)]
    by_cases z : k = n
    · rw [if_pos z, e26, e27, z]
      refine ⟨upd_self, fun j hj => ?_⟩
      have hj : j < 2 := hj
      by_cases z2 : j = 0
      · rw [z2, upd_ne (by omega)]
        show upd (A 27) (24 * n) (nI a) (24 * n) = _
        rw [upd_self]; rfl
      · rw [show j = 1 by omega, upd_self]; rfl
    · obtain ⟨k1, k2⟩ := m4 k (by omega)
      have := hR k (by omega)
      rw [if_neg z, e26, e27, upd_ne z]
      exact ⟨k1, fun j hj => by rw [upd_ne (by omega), upd_ne (by omega)]; exact k2 j hj⟩
end UM
