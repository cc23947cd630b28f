/-! THE CLASS'S SIDE: rows. A row at number a: its object there, its items at a + 1; room cap, length n, contents f -/
theorem at_set_self {h : am_H} {k : Nat} {c : am_C} (hk : k < h.length) : am_at (h.set k c) (k + 1) = some c := by
  show (h.set k c)[k]? = some c
  rw [List.getElem?_set_self hk]
theorem at_set_ne {h : am_H} {k r : Nat} {c : am_C} (hr : r ≠ k + 1) : am_at (h.set k c) r = am_at h r := by
  cases r with
  | zero => rfl
  | succ r =>
    show (h.set k c)[r]? = h[r]?
    rw [List.getElem?_set_ne (by omega)]
theorem obj_at {h h' : am_H} {a c : Nat} (e : am_at h' a = am_at h a) : am_obj a c h' = am_obj a c h := by unfold am_obj; rw [e]
theorem ia_at {h h' : am_H} {a t : Nat} (e : am_at h' a = am_at h a) : am_ia t a h' = am_ia t a h := by unfold am_ia; rw [e]
theorem ra_at {h h' : am_H} {a t : Nat} (e : am_at h' a = am_at h a) : am_ra t a h' = am_ra t a h := by unfold am_ra; rw [e]
theorem obj_of {h : am_H} {a c : Nat} {fs : List Value} (e : am_at h a = some (.inr (.inr (c, fs)))) : am_obj a c h = some fs := by unfold am_obj; rw [e]; exact if_pos rfl
theorem ia_of {h : am_H} {a t N : Nat} {f : Nat → Int32} (e : am_at h a = some (.inl (t, N, f))) : am_ia t a h = some (N, f) := by unfold am_ia; rw [e]; exact if_pos rfl
theorem ra_of {h : am_H} {a t N : Nat} {f : Nat → Nat} (e : am_at h a = some (.inr (.inl (t, N, f)))) : am_ra t a h = some (N, f) := by unfold am_ra; rw [e]; exact if_pos rfl
theorem ln_ia {h : am_H} {a t N : Nat} {f : Nat → Int32} (e : am_ia t a h = some (N, f)) (ht : t < 6) : am_ln a h = some (nI N) := by
  obtain ⟨j, rfl, hj⟩ := am_ia_spec e
  unfold am_ln
  rw [show am_at h (j + 1) = h[j]? from rfl, hj]
  exact if_pos ht
theorem ln_ra {h : am_H} {a t N : Nat} {f : Nat → Nat} (e : am_ra t a h = some (N, f)) (ht : t < 6) : am_ln a h = some (nI N) := by
  obtain ⟨j, rfl, hj⟩ := am_ra_spec e
  unfold am_ln
  rw [show am_at h (j + 1) = h[j]? from rfl, hj]
  exact if_pos ht
theorem il_ia {h : am_H} {a t N k : Nat} {f : Nat → Int32} (e : am_ia t a h = some (N, f)) (hk : k < N) (hN : N < 2 ^ 31) : am_il t a (nI k) h = some (f k) := by
  unfold am_il
  rw [e, Option.bind_some, ix_nI hk hN]
  rfl
theorem al_ra {h : am_H} {a t N k : Nat} {f : Nat → Nat} (e : am_ra t a h = some (N, f)) (hk : k < N) (hN : N < 2 ^ 31) : am_al t a (nI k) h = some (f k) := by
  unfold am_al
  rw [e, Option.bind_some, ix_nI hk hN]
  rfl
/-- so many cells and slots as before; what isn't in P is as before -/
def Fr (P : Nat → Prop) (h h' : am_H) : Prop := h'.length = h.length ∧ am_n h' = am_n h ∧ ∀ r, ¬ P r → am_at h' r = am_at h r
theorem Fr.rf {P : Nat → Prop} {h : am_H} : Fr P h h := ⟨rfl, rfl, fun _ _ => rfl⟩
theorem Fr.tr {P Q T : Nat → Prop} {h h1 h2 : am_H} (a : Fr P h h1) (b : Fr Q h1 h2) (hP : ∀ r, P r → T r) (hQ : ∀ r, Q r → T r) : Fr T h h2 :=
  ⟨b.1.trans a.1, b.2.1.trans a.2.1, fun r hr => (b.2.2 r (fun q => hr (hQ r q))).trans (a.2.2 r (fun q => hr (hP r q)))⟩
theorem Fr.mono {P T : Nat → Prop} {h h1 : am_H} (a : Fr P h h1) (hP : ∀ r, P r → T r) : Fr T h h1 := ⟨a.1, a.2.1, fun r hr => a.2.2 r (fun q => hr (hP r q))⟩
theorem Fr.set {h : am_H} {k : Nat} {c0 c : am_C} (hk : h[k]? = some c0) (hz : am_sz c = am_sz c0) : Fr (fun r => r = k + 1) h (h.set k c) :=
  ⟨List.length_set, am_n_set hk hz, fun _ hr => at_set_ne hr⟩
def RowAt (h : am_H) (a cap n : Nat) (f : Nat → Int32) : Prop := (am_obj a 4 h = some [.ref (a + 1), .int (nI n)] ∧ am_ia 0 (a + 1) h = some (cap, f)) ∧ n ≤ cap ∧ cap < 100000
theorem RowAt.fr {P : Nat → Prop} {h h' : am_H} {a cap n : Nat} {f : Nat → Int32} (r : RowAt h a cap n f) (F : Fr P h h') (h1 : ¬ P a) (h2 : ¬ P (a + 1)) : RowAt h' a cap n f :=
  ⟨⟨(obj_at (F.2.2 _ h1)).trans r.1.1, (ia_at (F.2.2 _ h2)).trans r.1.2⟩, r.2⟩
section ROW
variable {h : am_H} {a cap n : Nat} {f : Nat → Int32}
theorem RowAt.gi (r : RowAt h a cap n f) : am_gi 4 1 a h = some (nI n) := by unfold am_gi; rw [r.1.1]; rfl
theorem RowAt.gr (r : RowAt h a cap n f) : am_gr 4 0 a h = some (a + 1) := by unfold am_gr; rw [r.1.1]; rfl
theorem RowAt.ln (r : RowAt h a cap n f) : am_ln (a + 1) h = some (nI cap) := ln_ia r.1.2 (by decide)
theorem row_length (r : RowAt h a cap n f) : F_X4_length a h = some (nI n) := by
  simp only [F_X4_length, F_X4_length_b, r.1.1, r.gi, Option.bind_some]
theorem row_at (r : RowAt h a cap n f) {k : Nat} (hk : k < n) : F_X4_at a (nI k) h = some (f k) := by
  have h1 := r.2
  simp only [F_X4_at, F_X4_at_b, F_X4_at_31, r.1.1, r.gi, r.gr, r.ln, Option.bind_some]
  rw [if_neg (nI_pos (by omega)), if_neg (nI_ge hk (by omega)), if_neg (nI_ge (by omega) (by omega)), il_ia r.1.2 (by omega) (by omega)]
  rfl
theorem row_at_out (r : RowAt h a cap n f) {i : Int32} (hi : ¬ vd n i) : F_X4_at a i h = some (-1) := by
  have h1 := r.2
  simp only [F_X4_at, F_X4_at_b, F_X4_at_31, F_X4_at_30, r.1.1, r.gi, r.gr, r.ln, Option.bind_some]
  by_cases h2 : i < 0
  · rw [if_pos h2]
  · rw [if_neg h2]
    obtain ⟨j, hj, rfl⟩ := nI_of h2
    have : n ≤ j := by
      by_cases h3 : j < n
      · exact absurd (vd_nI h3 (by omega)) hi
      · omega
    rw [if_pos (nI_le this hj)]
/-- at any place: what is there, or NONE -/
theorem row_at_any (r : RowAt h a cap n f) (i : Int32) : F_X4_at a i h = some (if vd n i then f i.toNatClampNeg else -1) := by
  have h1 := r.2
  by_cases h2 : vd n i
  · obtain ⟨j, hj, rfl⟩ := nI_of_toInt h2.1 h2.2
    rw [if_pos h2, row_at r hj, cl_nI (by omega)]
  · rw [if_neg h2, row_at_out r h2]
theorem row_add (r : RowAt h a cap n f) (hn : n < cap) (x : Int32) : ∃ h', F_X4_add a x h = some h' ∧ RowAt h' a cap (n + 1) (upd f n x) ∧ Fr (fun q => q = a ∨ q = a + 1) h h' := by
  have h1 := r.2
  obtain ⟨ja, ea, ha⟩ := am_obj_spec r.1.1
  obtain ⟨jb, eb, hb⟩ := am_ia_spec r.1.2
  have ejb : jb = a := by omega
  subst ejb
  subst ea
  have hlb : ja + 1 < h.length := (List.getElem?_eq_some_iff.mp hb).1
  have f1 : Fr (fun q => q = ja + 1 + 1) h (h.set (ja + 1) (.inl (0, cap, upd f n x))) := Fr.set hb rfl
  have r1 : am_obj (ja + 1) 4 (h.set (ja + 1) (.inl (0, cap, upd f n x))) = some [.ref (ja + 1 + 1), .int (nI n)] := (obj_at (f1.2.2 _ (by omega))).trans r.1.1
  obtain ⟨ja2, ea2, ha2⟩ := am_obj_spec r1
  have eja : ja2 = ja := by omega
  subst eja
  have f2 : Fr (fun q => q = ja2 + 1) (h.set (ja2 + 1) (.inl (0, cap, upd f n x))) ((h.set (ja2 + 1) (.inl (0, cap, upd f n x))).set ja2 (.inr (.inr (4, [.ref (ja2 + 1 + 1), .int (nI (n + 1))])))) := Fr.set ha2 rfl
  refine ⟨(h.set (ja2 + 1) (.inl (0, cap, upd f n x))).set ja2 (.inr (.inr (4, [.ref (ja2 + 1 + 1), .int (nI (n + 1))]))), ?_, ⟨⟨?_, ?_⟩, by omega, by omega⟩, f1.tr f2 (fun q e => Or.inr e) (fun q e => Or.inl e)⟩
  · have es : am_is 0 (ja2 + 1 + 1) (nI n) x h = some (h.set (ja2 + 1) (.inl (0, cap, upd f n x))) := by
      unfold am_is
      rw [r.1.2, Option.bind_some, ix_nI (show n < (cap, f).1 from hn) (show (cap, f).1 < 2 ^ 31 by show cap < 2 ^ 31; omega)]
      rfl
    have eg : am_gi 4 1 (ja2 + 1) (h.set (ja2 + 1) (.inl (0, cap, upd f n x))) = some (nI n) := by unfold am_gi; rw [r1]; rfl
    have ep : am_pi 4 1 (ja2 + 1) (nI (n + 1)) (h.set (ja2 + 1) (.inl (0, cap, upd f n x))) = some ((h.set (ja2 + 1) (.inl (0, cap, upd f n x))).set ja2 (.inr (.inr (4, [.ref (ja2 + 1 + 1), .int (nI (n + 1))])))) := by
      unfold am_pi am_pv
      rw [r1]
      rfl
    simp only [F_X4_add, F_X4_add_b, F_X4_add_39, r.1.1, r.gi, r.gr, r.ln, Option.bind_some, es, eg, nI_1, ep]
    rw [if_neg (nI_pos (by omega)), if_neg (nI_ge hn (by omega))]
  · exact obj_of (at_set_self (by rw [List.length_set]; omega))
  · rw [ia_at (f2.2.2 _ (by omega))]
    exact ia_of (at_set_self hlb)
theorem row_empty (r : RowAt h a cap n f) : ∃ h', F_X4_empty a h = some h' ∧ RowAt h' a cap 0 f ∧ Fr (fun q => q = a) h h' := by
  have h1 := r.2
  obtain ⟨ja, ea, ha⟩ := am_obj_spec r.1.1
  subst ea
  have hla : ja < h.length := (List.getElem?_eq_some_iff.mp ha).1
  have f2 : Fr (fun q => q = ja + 1) h (h.set ja (.inr (.inr (4, [.ref (ja + 1 + 1), .int (nI 0)])))) := Fr.set ha rfl
  refine ⟨h.set ja (.inr (.inr (4, [.ref (ja + 1 + 1), .int (nI 0)]))), ?_, ⟨⟨?_, ?_⟩, by omega, by omega⟩, f2⟩
  · have ep : am_pi 4 1 (ja + 1) (nI 0) h = some (h.set ja (.inr (.inr (4, [.ref (ja + 1 + 1), .int (nI 0)])))) := by
      unfold am_pi am_pv
      rw [r.1.1]
      rfl
    simp only [F_X4_empty, F_X4_empty_b, r.1.1, Option.bind_some, lit, ep]
  · exact obj_of (at_set_self hla)
  · rw [ia_at (f2.2.2 _ (by omega))]
    exact r.1.2
theorem row_set (r : RowAt h a cap n f) {k : Nat} (hk : k < n) (x : Int32) : ∃ h', F_X4_set a (nI k) x h = some h' ∧ RowAt h' a cap n (upd f k x) ∧ Fr (fun q => q = a + 1) h h' := by
  have h1 := r.2
  obtain ⟨jb, eb, hb⟩ := am_ia_spec r.1.2
  have ejb : jb = a := by omega
  subst ejb
  have hlb : jb < h.length := (List.getElem?_eq_some_iff.mp hb).1
  have f1 : Fr (fun q => q = jb + 1) h (h.set jb (.inl (0, cap, upd f k x))) := Fr.set hb rfl
  refine ⟨h.set jb (.inl (0, cap, upd f k x)), ?_, ⟨⟨(obj_at (f1.2.2 _ (by omega))).trans r.1.1, ia_of (at_set_self hlb)⟩, h1⟩, f1⟩
  have es : am_is 0 (jb + 1) (nI k) x h = some (h.set jb (.inl (0, cap, upd f k x))) := by
    unfold am_is
    rw [r.1.2, Option.bind_some, ix_nI (show k < (cap, f).1 by show k < cap; omega) (show (cap, f).1 < 2 ^ 31 by show cap < 2 ^ 31; omega)]
    rfl
  simp only [F_X4_set, F_X4_set_b, F_X4_set_28, r.1.1, r.gi, r.gr, r.ln, Option.bind_some, es]
  rw [if_neg (nI_pos (by omega)), if_neg (nI_ge hk (by omega)), if_neg (nI_ge (by omega) (by omega))]
theorem row_set_out (r : RowAt h a cap n f) {k : Nat} (hk : n ≤ k) (hk2 : k < 2 ^ 31) (x : Int32) : F_X4_set a (nI k) x h = some h := by
  simp only [F_X4_set, F_X4_set_b, F_X4_set_28, r.1.1, r.gi, Option.bind_some]
  rw [if_neg (nI_pos hk2), if_pos (nI_le hk hk2)]
/-- the first place from i on that holds the item; n if there is none -/
def fstF (f : Nat → Int32) (x : Int32) : Nat → Nat → Nat
  | 0, i => i
  | m + 1, i => if f i = x then i else fstF f x m (i + 1)
theorem firstOf_loop (r : RowAt h a cap n f) (x : Int32) : ∀ (m k i : Nat), i + k = n → k < m → F_X4_firstOf_2 m a x (nI i) h = some (if fstF f x k i = n then -1 else nI (fstF f x k i))
  | 0, k, i, h1, h2 => by omega
  | m + 1, 0, i, h1, h2 => by
    have h3 := r.2
    rw [F_X4_firstOf_2]
    simp only [r.gi, Option.bind_some]
    rw [if_pos (nI_le (by omega) (by omega)), show fstF f x 0 i = i from rfl, if_pos (by omega)]
  | m + 1, k + 1, i, h1, h2 => by
    have h3 := r.2
    have ih := firstOf_loop r x m k (i + 1) (by omega) (by omega)
    rw [F_X4_firstOf_2]
    simp only [r.gi, Option.bind_some, row_at r (show i < n by omega), lit, nI_add]
    rw [if_neg (nI_ge (by omega) (by omega))]
    unfold fstF
    by_cases he : f i = x
    · rw [if_pos he, if_pos he, if_neg (by omega)]
    · rw [if_neg he, if_neg he]
      exact ih
theorem row_firstOf (r : RowAt h a cap n f) (x : Int32) : F_X4_firstOf a x h = some (if fstF f x n 0 = n then -1 else nI (fstF f x n 0)) := by
  have h3 := r.2
  simp only [F_X4_firstOf, F_X4_firstOf_b, r.1.1, Option.bind_some]
  exact firstOf_loop r x am_F n 0 (by omega) (by show n < 100000; omega)
theorem fstF_le (f : Nat → Int32) (x : Int32) : ∀ m i, fstF f x m i ≤ i + m
  | 0, i => Nat.le_refl _
  | m + 1, i => by
    unfold fstF
    split
    · omega
    · have := fstF_le f x m (i + 1); omega
theorem fstF_any (f : Nat → Int32) (x : Int32) : ∀ m i, (fstF f x m i = i + m) ↔ ∀ j, i ≤ j → j < i + m → f j ≠ x
  | 0, i => ⟨fun _ j h1 h2 => by omega, fun _ => rfl⟩
  | m + 1, i => by
    unfold fstF
    by_cases he : f i = x
    · rw [if_pos he]
      exact ⟨fun q => by omega, fun q => absurd he (q i (Nat.le_refl _) (by omega))⟩
    · rw [if_neg he, show i + (m + 1) = i + 1 + m by omega, fstF_any f x m (i + 1)]
      refine ⟨fun q j h1 h2 => ?_, fun q j h1 h2 => q j (by omega) h2⟩
      by_cases e : j = i
      · rw [e]; exact he
      · exact q j (by omega) h2
end ROW
