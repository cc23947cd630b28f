/-! RULES: what both work out; rows as lists -/
abbrev gD (l : List Nat) (j : Nat) : Nat := l.getD j 0
theorem gD_app1 {l1 l2 : List Nat} {j : Nat} (h : j < l1.length) : gD (l1 ++ l2) j = gD l1 j := by
  show (l1 ++ l2).getD j 0 = l1.getD j 0
  rw [List.getD_eq_getElem?_getD, List.getD_eq_getElem?_getD, List.getElem?_append_left h]
theorem gD_app2 {l1 l2 : List Nat} {j : Nat} : gD (l1 ++ l2) (l1.length + j) = gD l2 j := by
  show (l1 ++ l2).getD (l1.length + j) 0 = l2.getD j 0
  rw [List.getD_eq_getElem?_getD, List.getD_eq_getElem?_getD, List.getElem?_append_right (by omega), Nat.add_sub_cancel_left]
theorem gD_at {l1 l2 : List Nat} {x : Nat} : gD (l1 ++ x :: l2) l1.length = x := by
  have := gD_app2 (l1 := l1) (l2 := x :: l2) (j := 0)
  rw [Nat.add_zero] at this
  exact this
theorem gD_at1 {l1 l2 : List Nat} {x y : Nat} : gD (l1 ++ x :: y :: l2) (l1.length + 1) = y := gD_app2 (l1 := l1) (l2 := x :: y :: l2) (j := 1)
theorem gD_mem {l : List Nat} {j : Nat} (h : j < l.length) : gD l j ∈ l := by
  show l.getD j 0 ∈ l
  rw [List.getD_eq_getElem?_getD, List.getElem?_eq_getElem h]
  exact List.getElem_mem h
def twL (a b : Nat) : List Nat → Nat
  | [] => 0
  | [_] => 0
  | x :: y :: t => if x = a ∧ y = b then twL a b t + 1 else twL a b (y :: t)
def jnL (a b c : Nat) : List Nat → List Nat
  | [] => []
  | [x] => [x]
  | x :: y :: t => if x = a ∧ y = b then c :: jnL a b c t else x :: jnL a b c (y :: t)
theorem tw_pos (a b : Nat) : ∀ l, 0 < twL a b l → ∃ j, j + 1 < l.length ∧ gD l j = a ∧ gD l (j + 1) = b
  | [], h => by cases h
  | [_], h => by cases h
  | x :: y :: t, h => by
    unfold twL at h
    by_cases c : x = a ∧ y = b
    · exact ⟨0, by simp, c.1, c.2⟩
    · rw [if_neg c] at h
      obtain ⟨j, h1, h2, h3⟩ := tw_pos a b (y :: t) h
      exact ⟨j + 1, by simp at h1 ⊢; omega, h2, h3⟩
theorem tw_le (a b : Nat) : ∀ l, 2 * twL a b l ≤ l.length
  | [] => by simp [twL]
  | [_] => by simp [twL]
  | x :: y :: t => by
    unfold twL
    by_cases c : x = a ∧ y = b
    · rw [if_pos c]
      have := tw_le a b t
      simp
      omega
    · rw [if_neg c]
      have := tw_le a b (y :: t)
      simp at this ⊢
      omega
theorem jn_len (a b c : Nat) : ∀ l, (jnL a b c l).length + twL a b l = l.length
  | [] => rfl
  | [_] => rfl
  | x :: y :: t => by
    unfold jnL twL
    by_cases h : x = a ∧ y = b
    · rw [if_pos h, if_pos h]
      have := jn_len a b c t
      simp
      omega
    · rw [if_neg h, if_neg h]
      have := jn_len a b c (y :: t)
      simp at this ⊢
      omega
theorem jn_mem (a b c : Nat) : ∀ l, ∀ x ∈ jnL a b c l, x = c ∨ x ∈ l
  | [], x, h => by cases h
  | [_], x, h => Or.inr h
  | u :: y :: t, x, h => by
    unfold jnL at h
    by_cases e : u = a ∧ y = b
    · rw [if_pos e] at h
      rcases List.mem_cons.mp h with h | h
      · exact Or.inl h
      · rcases jn_mem a b c t x h with h | h
        · exact Or.inl h
        · exact Or.inr (List.mem_cons_of_mem _ (List.mem_cons_of_mem _ h))
    · rw [if_neg e] at h
      rcases List.mem_cons.mp h with h | h
      · rw [h]; exact Or.inr List.mem_cons_self
      · rcases jn_mem a b c (y :: t) x h with h | h
        · exact Or.inl h
        · exact Or.inr (List.mem_cons_of_mem _ h)
theorem jn_has (a b c : Nat) : ∀ l, 0 < twL a b l → c ∈ jnL a b c l
  | [], h => by cases h
  | [_], h => by cases h
  | x :: y :: t, h => by
    unfold twL at h
    unfold jnL
    by_cases e : x = a ∧ y = b
    · rw [if_pos e]; exact List.mem_cons_self
    · rw [if_neg e] at h ⊢
      exact List.mem_cons_of_mem _ (jn_has a b c (y :: t) h)
theorem jn_sum {a b c : Nat} {w w' : Nat → Nat} (hc : w' c = w a + w b) : ∀ l, (∀ x ∈ l, w' x = w x) → ((jnL a b c l).map w').sum = (l.map w).sum
  | [], _ => rfl
  | [x], h => by
    show (w' x + 0 : Nat) = w x + 0
    rw [h x List.mem_cons_self]
  | x :: y :: t, h => by
    unfold jnL
    by_cases e : x = a ∧ y = b
    · rw [if_pos e]
      have := jn_sum hc t (fun z hz => h z (List.mem_cons_of_mem _ (List.mem_cons_of_mem _ hz)))
      simp only [List.map_cons, List.sum_cons]
      rw [this, hc, e.1, e.2]
      omega
    · rw [if_neg e]
      have := jn_sum hc (y :: t) (fun z hz => h z (List.mem_cons_of_mem _ hz))
      simp only [List.map_cons, List.sum_cons] at this ⊢
      rw [this, h x List.mem_cons_self]
theorem sum_mem {w : Nat → Nat} {c : Nat} : ∀ l : List Nat, c ∈ l → w c ≤ (l.map w).sum
  | [], h => by cases h
  | x :: t, h => by
    simp only [List.map_cons, List.sum_cons]
    rcases List.mem_cons.mp h with h | h
    · rw [h]; omega
    · have := sum_mem (w := w) t h; omega
theorem sum_len {w : Nat → Nat} (hw : ∀ x, 1 ≤ w x) : ∀ l : List Nat, l.length ≤ (l.map w).sum
  | [] => Nat.le_refl _
  | x :: t => by
    have := sum_len hw t
    have := hw x
    simp only [List.map_cons, List.sum_cons, List.length_cons]
    omega
/-! how many signs a piece stands for -/
abbrev sP : Type := Nat → Nat × Nat
def wF (P : sP) : Nat → Nat → Nat
  | 0, _ => 1
  | n + 1, x => if x = 16 + n then wF P n (P n).1 + wF P n (P n).2 else wF P n x
theorem wF_pos (P : sP) : ∀ n x, 1 ≤ wF P n x
  | 0, _ => Nat.le_refl _
  | n + 1, x => by
    have h1 := wF_pos P n x
    have h2 := wF_pos P n (P n).1
    unfold wF
    split <;> omega
theorem wF_st (P : sP) (m x : Nat) (h : x < 16 + m) : ∀ j, wF P (m + j) x = wF P m x
  | 0 => rfl
  | j + 1 => by
    show (if x = 16 + (m + j) then _ else wF P (m + j) x) = _
    rw [if_neg (by omega)]
    exact wF_st P m x h j
theorem wF_cg {P P' : sP} : ∀ n, (∀ k, k < n → P k = P' k) → ∀ x, wF P n x = wF P' n x
  | 0, _, _ => rfl
  | n + 1, h, x => by
    unfold wF
    rw [h n (by omega), wF_cg n (fun k hk => h k (by omega)) x, wF_cg n (fun k hk => h k (by omega)) (P' n).1, wF_cg n (fun k hk => h k (by omega)) (P' n).2]
theorem wF_top {P : sP} {n k : Nat} (hk : k < n) (h1 : (P k).1 < 16 + k) (h2 : (P k).2 < 16 + k) : wF P n (16 + k) = wF P n (P k).1 + wF P n (P k).2 := by
  have e0 := wF_st P (k + 1) (16 + k) (by omega) (n - (k + 1))
  have e1 := wF_st P k (P k).1 h1 (n - k)
  have e2 := wF_st P k (P k).2 h2 (n - k)
  rw [show k + 1 + (n - (k + 1)) = n by omega] at e0
  rw [show k + (n - k) = n by omega] at e1 e2
  rw [e0, e1, e2]
  exact if_pos rfl
def updP (P : sP) (n : Nat) (q : Nat × Nat) : sP := fun k => if k = n then q else P k
theorem updP_self {P : sP} {n : Nat} {q : Nat × Nat} : updP P n q n = q := by unfold updP; rw [if_pos rfl]
theorem updP_ne {P : sP} {n k : Nat} {q : Nat × Nat} (h : k ≠ n) : updP P n q k = P k := by unfold updP; rw [if_neg h]
def GI (N n : Nat) (l : List Nat) (P : sP) : Prop := (∀ x ∈ l, x < 16 + n) ∧ (l.map (wF P n)).sum = N ∧ l.length + 2 * n ≤ N ∧ ∀ k, k < n → (P k).1 < 16 + k ∧ (P k).2 < 16 + k ∧ wF P n (16 + k) ≤ N
theorem GI_step {N n a b : Nat} {l : List Nat} {P : sP} (G : GI N n l P) (ha : a < 16 + n) (hb : b < 16 + n) (h2 : 2 ≤ twL a b l) : GI N (n + 1) (jnL a b (16 + n) l) (updP P n (a, b)) ∧ 2 ≤ (jnL a b (16 + n) l).length := by
  obtain ⟨g1, g2, g3, g4⟩ := G
  have hl := jn_len a b (16 + n) l
  have hl2 := tw_le a b l
  have cg : ∀ x, wF (updP P n (a, b)) n x = wF P n x := wF_cg n (fun k hk => updP_ne (by omega))
  have st : ∀ x, x < 16 + n → wF (updP P n (a, b)) (n + 1) x = wF P n x := fun x hx => by
    show (if x = 16 + n then _ else wF (updP P n (a, b)) n x) = _
    rw [if_neg (by omega), cg]
  have top : wF (updP P n (a, b)) (n + 1) (16 + n) = wF P n a + wF P n b := by
    show (if 16 + n = 16 + n then wF (updP P n (a, b)) n (updP P n (a, b) n).1 + wF (updP P n (a, b)) n (updP P n (a, b) n).2 else _) = _
    rw [if_pos rfl, updP_self, cg, cg]
  have hs := jn_sum (a := a) (b := b) (c := 16 + n) (w := wF P n) (w' := wF (updP P n (a, b)) (n + 1)) top l (fun x hx => st x (g1 x hx))
  refine ⟨⟨fun x hx => ?_, by rw [hs]; exact g2, by omega, fun k hk => ?_⟩, by omega⟩
  · rcases jn_mem a b (16 + n) l x hx with h | h
    · omega
    · have := g1 x h; omega
  · by_cases e : k = n
    · rw [e, updP_self]
      refine ⟨ha, hb, ?_⟩
      have := sum_mem (w := wF (updP P n (a, b)) (n + 1)) _ (jn_has a b (16 + n) l (by omega))
      omega
    · obtain ⟨k1, k2, k3⟩ := g4 k (by omega)
      rw [updP_ne e, st _ (by omega)]
      exact ⟨k1, k2, k3⟩
/-! the pair that stands most often -/
def bpOk (V : Nat → Nat → Prop) (l : List Nat) (s : Nat × Nat × Nat) : Prop := (∀ x y, V x y → twL x y l ≤ s.1) ∧ (s.1 = 1 ∨ (1 < s.1 ∧ twL s.2.1 s.2.2 l = s.1 ∧ V s.2.1 s.2.2 ∧ ∀ x y, V x y → (x < s.2.1 ∨ (x = s.2.1 ∧ y < s.2.2)) → twL x y l < s.1))
theorem bp_uniq {V W : Nat → Nat → Prop} {l : List Nat} {s t : Nat × Nat × Nat} (hs : bpOk V l s) (ht : bpOk W l t) (hV : ∀ x y, 1 ≤ twL x y l → V x y) (hW : ∀ x y, 1 ≤ twL x y l → W x y) : s.1 = t.1 ∧ (1 < s.1 → s.2 = t.2) := by
  obtain ⟨s1, s2⟩ := hs
  obtain ⟨t1, t2⟩ := ht
  rcases s2 with e | ⟨a1, a2, a3, a4⟩
  · rcases t2 with e' | ⟨b1, b2, b3, b4⟩
    · exact ⟨by omega, fun z => by omega⟩
    · have := s1 _ _ (hV t.2.1 t.2.2 (by omega)); omega
  · rcases t2 with e' | ⟨b1, b2, b3, b4⟩
    · have := t1 _ _ (hW s.2.1 s.2.2 (by omega)); omega
    · have h1 := s1 _ _ (hV t.2.1 t.2.2 (by omega))
      have h2 := t1 _ _ (hW s.2.1 s.2.2 (by omega))
      refine ⟨by omega, fun _ => ?_⟩
      have h3 := a4 _ _ (hV t.2.1 t.2.2 (by omega))
      have h4 := b4 _ _ (hW s.2.1 s.2.2 (by omega))
      have h5 : s.2.1 = t.2.1 := by
        rcases Nat.lt_trichotomy s.2.1 t.2.1 with c | c | c
        · have := h4 (Or.inl c); omega
        · exact c
        · have := h3 (Or.inl c); omega
      have h6 : s.2.2 = t.2.2 := by
        rcases Nat.lt_trichotomy s.2.2 t.2.2 with c | c | c
        · have := h4 (Or.inr ⟨h5, c⟩); omega
        · exact c
        · have := h3 (Or.inr ⟨h5.symm, c⟩); omega
      exact Prod.ext h5 h6
def bpF (l : List Nat) (x : Nat) (s : Nat × Nat × Nat) : Nat → Nat × Nat × Nat
  | 0 => s
  | y + 1 => if (bpF l x s y).1 < twL x y l then (twL x y l, x, y) else bpF l x s y
def bpG (l : List Nat) (c : Nat) : Nat → Nat × Nat × Nat
  | 0 => (1, 0, 0)
  | x + 1 => bpF l x (bpG l c x) c
theorem bpF_ok {l : List Nat} {c x : Nat} {s : Nat × Nat × Nat} (hs : bpOk (fun u v => u < x ∧ v < c) l s) : ∀ y, y ≤ c → bpOk (fun u v => (u < x ∧ v < c) ∨ (u = x ∧ v < y)) l (bpF l x s y)
  | 0, _ => by
    obtain ⟨s1, s2⟩ := hs
    refine ⟨fun u v h => s1 u v (h.elim id (fun z => by omega)), s2.imp id (fun ⟨a1, a2, a3, a4⟩ => ⟨a1, a2, Or.inl a3, fun u v h => a4 u v (h.elim id (fun z => by omega))⟩)⟩
  | y + 1, hy => by
    obtain ⟨s1, s2⟩ := bpF_ok hs y (by omega)
    have hu : bpF l x s (y + 1) = if (bpF l x s y).1 < twL x y l then (twL x y l, x, y) else bpF l x s y := rfl
    rw [hu]
    have h1 : 1 ≤ (bpF l x s y).1 := by rcases s2 with e | ⟨a1, -⟩ <;> omega
    by_cases c1 : (bpF l x s y).1 < twL x y l
    · rw [if_pos c1]
      refine ⟨fun u v h => ?_, Or.inr ⟨by show 1 < twL x y l; omega, rfl, Or.inr ⟨rfl, by show y < y + 1; omega⟩, fun u v h h' => ?_⟩⟩
      · show twL u v l ≤ twL x y l
        rcases h with h | ⟨h, h'⟩
        · have := s1 u v (Or.inl h); omega
        · by_cases e : v = y
          · rw [h, e]; exact Nat.le_refl _
          · have := s1 u v (Or.inr ⟨h, by omega⟩); omega
      · show twL u v l < twL x y l
        have h' : u < x ∨ (u = x ∧ v < y) := h'
        have : twL u v l ≤ (bpF l x s y).1 := by
          rcases h with h | ⟨h, h2⟩
          · exact s1 u v (Or.inl h)
          · exact s1 u v (Or.inr ⟨h, by omega⟩)
        omega
    · rw [if_neg c1]
      refine ⟨fun u v h => ?_, s2.imp id (fun ⟨a1, a2, a3, a4⟩ => ⟨a1, a2, a3.imp id (fun z => ⟨z.1, by omega⟩), fun u v h h' => ?_⟩)⟩
      · rcases h with h | ⟨h, h'⟩
        · exact s1 u v (Or.inl h)
        · by_cases e : v = y
          · rw [h, e]; omega
          · exact s1 u v (Or.inr ⟨h, by omega⟩)
      · rcases h with h | ⟨h, h2⟩
        · exact a4 u v (Or.inl h) h'
        · by_cases e : v = y
          · exfalso
            rcases a3 with a3 | a3 <;> omega
          · exact a4 u v (Or.inr ⟨h, by omega⟩) h'
theorem bpG_ok (l : List Nat) (c : Nat) : ∀ x, bpOk (fun u v => u < x ∧ v < c) l (bpG l c x)
  | 0 => ⟨fun u v h => by omega, Or.inl rfl⟩
  | x + 1 => by
    obtain ⟨s1, s2⟩ := bpF_ok (bpG_ok l c x) c (Nat.le_refl _)
    show bpOk _ l (bpF l x (bpG l c x) c)
    refine ⟨fun u v h => s1 u v ?_, s2.imp id (fun ⟨a1, a2, a3, a4⟩ => ⟨a1, a2, ?_, fun u v h => a4 u v ?_⟩)⟩
    · by_cases e : u = x
      · exact Or.inr ⟨e, h.2⟩
      · exact Or.inl ⟨by omega, h.2⟩
    · rcases a3 with a3 | a3 <;> exact ⟨by omega, by omega⟩
    · by_cases e : u = x
      · exact Or.inr ⟨e, h.2⟩
      · exact Or.inl ⟨by omega, h.2⟩
theorem tw_in {l : List Nat} {c x y : Nat} (hl : ∀ z ∈ l, z < c) (h : 1 ≤ twL x y l) : x < c ∧ y < c := by
  obtain ⟨j, h1, h2, h3⟩ := tw_pos x y l h
  rw [← h2, ← h3]
  exact ⟨hl _ (gD_mem (by omega)), hl _ (gD_mem h1)⟩
abbrev bp (l : List Nat) (n : Nat) : Nat × Nat × Nat := bpG l (16 + n) (16 + n)
/-! the rules grow -/
def grw : Nat → Nat → List Nat → sP → Nat × List Nat × sP
  | 0, n, l, P => (n, l, P)
  | f + 1, n, l, P => if (bp l n).1 ≤ 1 then (n, l, P) else grw f (n + 1) (jnL (bp l n).2.1 (bp l n).2.2 (16 + n) l) (updP P n (bp l n).2)
theorem bp_grow {N n : Nat} {l : List Nat} {P : sP} (G : GI N n l P) (h : ¬ (bp l n).1 ≤ 1) : (bp l n).2.1 < 16 + n ∧ (bp l n).2.2 < 16 + n ∧ 2 ≤ twL (bp l n).2.1 (bp l n).2.2 l := by
  obtain ⟨s1, s2⟩ := bpG_ok l (16 + n) (16 + n)
  rcases s2 with e | ⟨a1, a2, a3, a4⟩
  · exact absurd (Nat.le_of_eq e) h
  · exact ⟨a3.1, a3.2, by rw [a2]; exact a1⟩
/-! cleaned -/
def exL (k : Nat) (q : Nat × Nat) : List Nat → List Nat
  | [] => []
  | x :: t => if x = 16 + k then q.1 :: q.2 :: exL k q t else x :: exL k q t
theorem ex_sum {k : Nat} {q : Nat × Nat} {w : Nat → Nat} (h : w (16 + k) = w q.1 + w q.2) : ∀ l, ((exL k q l).map w).sum = (l.map w).sum
  | [] => rfl
  | x :: t => by
    have ih := ex_sum h t
    unfold exL
    by_cases c : x = 16 + k
    · rw [if_pos c]
      simp only [List.map_cons, List.sum_cons]
      rw [ih, c, h]
      omega
    · rw [if_neg c]
      simp only [List.map_cons, List.sum_cons]
      rw [ih]
theorem ex_mem {k : Nat} {q : Nat × Nat} : ∀ l, ∀ x ∈ exL k q l, x = q.1 ∨ x = q.2 ∨ x ∈ l
  | [], x, h => by cases h
  | u :: t, x, h => by
    unfold exL at h
    by_cases c : u = 16 + k
    · rw [if_pos c] at h
      rcases List.mem_cons.mp h with h | h
      · exact Or.inl h
      · rcases List.mem_cons.mp h with h | h
        · exact Or.inr (Or.inl h)
        · exact (ex_mem t x h).imp id (fun z => z.imp id (List.mem_cons_of_mem _))
    · rw [if_neg c] at h
      rcases List.mem_cons.mp h with h | h
      · rw [h]; exact Or.inr (Or.inr List.mem_cons_self)
      · exact (ex_mem t x h).imp id (fun z => z.imp id (List.mem_cons_of_mem _))
theorem ex_id {k : Nat} {q : Nat × Nat} : ∀ l : List Nat, (∀ x ∈ l, x ≠ 16 + k) → exL k q l = l
  | [], _ => rfl
  | x :: t, h => by
    unfold exL
    rw [if_neg (h x List.mem_cons_self), ex_id t (fun z hz => h z (List.mem_cons_of_mem _ hz))]
theorem ex_len {k : Nat} {q : Nat × Nat} : ∀ l : List Nat, l.length ≤ (exL k q l).length
  | [] => Nat.le_refl _
  | x :: t => by
    have := ex_len (k := k) (q := q) t
    unfold exL
    split <;> (simp; omega)
theorem ex_cons {k : Nat} {q : Nat × Nat} {x : Nat} {t : List Nat} : exL k q (x :: t) = if x = 16 + k then q.1 :: q.2 :: exL k q t else x :: exL k q t := rfl
theorem ex_app {k : Nat} {q : Nat × Nat} : ∀ l t : List Nat, exL k q (l ++ t) = exL k q l ++ exL k q t
  | [], _ => rfl
  | x :: l, t => by
    have ih := ex_app (k := k) (q := q) l t
    show exL k q (x :: (l ++ t)) = _
    rw [ex_cons, ex_cons]
    split
    · rw [ih]; rfl
    · rw [ih]; rfl
def cnL (x : Nat) (l : List Nat) : Nat := cntN (fun j => gD l j == x) l.length
def stN (n k : Nat) (l : List Nat) (R : Nat → List Nat) : Nat := cnL (16 + k) l + sumN (fun j => cnL (16 + k) (R j)) n
abbrev sC : Type := List Nat × (Nat → List Nat)
def cln (P : sP) (n : Nat) : Nat → sC → sC
  | 0, s => s
  | k + 1, s => if stN n k s.1 s.2 < 2 then cln P n k (exL k (P k) s.1, fun j => if j = k then [] else exL k (P k) (s.2 j)) else cln P n k s
def CI (N n : Nat) (P : sP) (k : Nat) (s : sC) : Prop := ((∀ x ∈ s.1, x < 16 + n) ∧ (s.1.map (wF P n)).sum = N) ∧ (∀ j, j < n → (∀ x ∈ s.2 j, x < 16 + n) ∧ ((s.2 j).map (wF P n)).sum ≤ N) ∧ ∀ j, j < k → s.2 j = [(P j).1, (P j).2]
def PO (N n : Nat) (P : sP) : Prop := ∀ k, k < n → (P k).1 < 16 + k ∧ (P k).2 < 16 + k ∧ wF P n (16 + k) ≤ N
theorem CI_step {N n k : Nat} {P : sP} {s : sC} (hP : PO N n P) (hk : k < n) (C : CI N n P (k + 1) s) : CI N n P k s ∧ CI N n P k (exL k (P k) s.1, fun j => if j = k then [] else exL k (P k) (s.2 j)) := by
  obtain ⟨⟨c1, c2⟩, c3, c4⟩ := C
  obtain ⟨p1, p2, p3⟩ := hP k hk
  have top := wF_top hk p1 p2
  have mem : ∀ l : List Nat, (∀ x ∈ l, x < 16 + n) → ∀ x ∈ exL k (P k) l, x < 16 + n := fun l h x hx => by
    rcases ex_mem l x hx with z | z | z
    · omega
    · omega
    · exact h x z
  refine ⟨⟨⟨c1, c2⟩, c3, fun j hj => c4 j (by omega)⟩, ⟨⟨mem _ c1, by show ((exL k (P k) s.1).map _).sum = N; rw [ex_sum top]; exact c2⟩, fun j hj => ?_, fun j hj => ?_⟩⟩
  · show (∀ x ∈ (if j = k then [] else exL k (P k) (s.2 j)), x < 16 + n) ∧ ((if j = k then [] else exL k (P k) (s.2 j)).map (wF P n)).sum ≤ N
    by_cases e : j = k
    · rw [if_pos e]
      exact ⟨fun x hx => (by cases hx), Nat.zero_le _⟩
    · rw [if_neg e, ex_sum top]
      exact ⟨mem _ (c3 j hj).1, (c3 j hj).2⟩
  · show (if j = k then [] else exL k (P k) (s.2 j)) = _
    rw [if_neg (by omega), c4 j (by omega)]
    have := hP j (by omega)
    exact ex_id _ (fun x hx => by
      rcases List.mem_cons.mp hx with z | z
      · omega
      · rcases List.mem_cons.mp z with z | z
        · omega
        · cases z)
theorem CI_len {N n k : Nat} {P : sP} {s : sC} (C : CI N n P k s) : s.1.length ≤ N ∧ ∀ j, j < n → (s.2 j).length ≤ N := by
  have h1 := sum_len (wF_pos P n) s.1
  refine ⟨by rw [C.1.2] at h1; exact h1, fun j hj => Nat.le_trans (sum_len (wF_pos P n) _) (C.2.1 j hj).2⟩
/-! all of it -/
def sL (s : Nat → Nat) (n : Nat) : List Nat := (List.range n).map s
theorem sL_len (s : Nat → Nat) (n : Nat) : (sL s n).length = n := by simp [sL]
theorem sL_at {s : Nat → Nat} {n j : Nat} (h : j < n) : gD (sL s n) j = s j := by
  show (sL s n).getD j 0 = s j
  unfold sL
  rw [List.getD_eq_getElem?_getD, List.getElem?_map, List.getElem?_range h]
  rfl
def gW (s : Nat → Nat) (n : Nat) : Nat × List Nat × sP := grw 12 0 (sL s n) (fun _ => (0, 0))
def ruC (s : Nat → Nat) (n : Nat) : sC := cln (gW s n).2.2 (gW s n).1 (gW s n).1 ((gW s n).2.1, fun j => [((gW s n).2.2 j).1, ((gW s n).2.2 j).2])
theorem GI_0 {s : Nat → Nat} {n : Nat} (hs : ∀ k, k < n → s k < 16) : GI n 0 (sL s n) (fun _ => (0, 0)) := by
  refine ⟨fun x hx => ?_, ?_, by rw [sL_len]; omega, fun k hk => by omega⟩
  · unfold sL at hx
    obtain ⟨j, hj, rfl⟩ := List.mem_map.mp hx
    have := hs j (List.mem_range.mp hj)
    omega
  · have : ∀ l : List Nat, (l.map (wF (fun _ => (0, 0)) 0)).sum = l.length := fun l => by
      induction l with
      | nil => rfl
      | cons x t ih => simp only [List.map_cons, List.sum_cons, List.length_cons]; rw [ih]; show 1 + t.length = _; omega
    rw [this, sL_len]
theorem GI_CI {N n : Nat} {l : List Nat} {P : sP} (G : GI N n l P) : CI N n P n (l, fun j => [(P j).1, (P j).2]) ∧ PO N n P := by
  obtain ⟨g1, g2, g3, g4⟩ := G
  refine ⟨⟨⟨g1, g2⟩, fun j hj => ⟨fun x hx => ?_, ?_⟩, fun j hj => rfl⟩, g4⟩
  · have := g4 j hj
    rcases List.mem_cons.mp hx with z | z
    · omega
    · rcases List.mem_cons.mp z with z | z
      · omega
      · cases z
  · have h := g4 j hj
    have top := wF_top hj h.1 h.2.1
    simp only [List.map_cons, List.sum_cons, List.map_nil, List.sum_nil]
    omega
