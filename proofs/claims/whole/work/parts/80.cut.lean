/-! one of the parts that calls use again is new -/
theorem Scr.p {h h' : am_H} (C : Scr h) (F : Fr (fun q => 8 ≤ q ∧ q < 10) h h') (m : ∃ n f, RowAt h' 8 8 n f) : Scr h' := by
  have hp : ∀ q, q < 8 ∨ 10 ≤ q → ¬ ((fun q => 8 ≤ q ∧ q < 10) q) := fun q h1 h2 => by have h2 : 8 ≤ q ∧ q < 10 := h2; omega
  obtain ⟨-, s2, s3, ⟨T, u0, u1, u2⟩, ⟨n1, n2, n3, n4, n5⟩, ⟨⟨ua, ub, uc, z1⟩, z2, ⟨gg, z3, z4⟩, z5⟩, ⟨⟨a', b', c', o1⟩, o2, o3⟩, ⟨⟨ta, y1⟩, y2, y3, y4, y5⟩, ⟨⟨ca, cb, x1⟩, x2, x3, ⟨TC, x4⟩, x6⟩⟩ := C
  exact ⟨m, bRow s2 F (hp _ (by omega)) (hp _ (by omega)), bRow s3 F (hp _ (by omega)) (hp _ (by omega)), ⟨T, u0.fr F (fun q q1 q2 => hp q (by omega)), u1, u2⟩, ⟨(obj_at (F.2.2 _ (hp _ (by omega)))).trans n1, bIa n2 F (hp _ (by omega)), bIa n3 F (hp _ (by omega)), bIa n4 F (hp _ (by omega)), bRow n5 F (hp _ (by omega)) (hp _ (by omega))⟩, ⟨⟨ua, ub, uc, (obj_at (F.2.2 _ (hp _ (by omega)))).trans z1⟩, bRow z2 F (hp _ (by omega)) (hp _ (by omega)), ⟨gg, (ra_at (F.2.2 _ (hp _ (by omega)))).trans z3, fun k hk => ⟨(z4 k hk).1, bRow (z4 k hk).2 F (hp _ (by omega)) (hp _ (by omega))⟩⟩, bRow z5 F (hp _ (by omega)) (hp _ (by omega))⟩, ⟨⟨a', b', c', (obj_at (F.2.2 _ (hp _ (by omega)))).trans o1⟩, bIa o2 F (hp _ (by omega)), bRow o3 F (hp _ (by omega)) (hp _ (by omega))⟩, ⟨⟨ta, (obj_at (F.2.2 _ (hp _ (by omega)))).trans y1⟩, bIa y2 F (hp _ (by omega)), bIa y3 F (hp _ (by omega)), bRow y4 F (hp _ (by omega)) (hp _ (by omega)), bRow y5 F (hp _ (by omega)) (hp _ (by omega))⟩, ⟨⟨ca, cb, (obj_at (F.2.2 _ (hp _ (by omega)))).trans x1⟩, bRow x2 F (hp _ (by omega)) (hp _ (by omega)), bRow x3 F (hp _ (by omega)) (hp _ (by omega)), ⟨TC, x4.fr F (fun q q1 q2 => hp q (by omega))⟩, bRow x6 F (hp _ (by omega)) (hp _ (by omega))⟩⟩
theorem Scr.s {h h' : am_H} (C : Scr h) (F : Fr (fun q => 10 ≤ q ∧ q < 12) h h') (m : ∃ n f, RowAt h' 10 25 n f) : Scr h' := by
  have hp : ∀ q, q < 10 ∨ 12 ≤ q → ¬ ((fun q => 10 ≤ q ∧ q < 12) q) := fun q h1 h2 => by have h2 : 10 ≤ q ∧ q < 12 := h2; omega
  obtain ⟨s1, -, s3, ⟨T, u0, u1, u2⟩, ⟨n1, n2, n3, n4, n5⟩, ⟨⟨ua, ub, uc, z1⟩, z2, ⟨gg, z3, z4⟩, z5⟩, ⟨⟨a', b', c', o1⟩, o2, o3⟩, ⟨⟨ta, y1⟩, y2, y3, y4, y5⟩, ⟨⟨ca, cb, x1⟩, x2, x3, ⟨TC, x4⟩, x6⟩⟩ := C
  exact ⟨bRow s1 F (hp _ (by omega)) (hp _ (by omega)), m, bRow s3 F (hp _ (by omega)) (hp _ (by omega)), ⟨T, u0.fr F (fun q q1 q2 => hp q (by omega)), u1, u2⟩, ⟨(obj_at (F.2.2 _ (hp _ (by omega)))).trans n1, bIa n2 F (hp _ (by omega)), bIa n3 F (hp _ (by omega)), bIa n4 F (hp _ (by omega)), bRow n5 F (hp _ (by omega)) (hp _ (by omega))⟩, ⟨⟨ua, ub, uc, (obj_at (F.2.2 _ (hp _ (by omega)))).trans z1⟩, bRow z2 F (hp _ (by omega)) (hp _ (by omega)), ⟨gg, (ra_at (F.2.2 _ (hp _ (by omega)))).trans z3, fun k hk => ⟨(z4 k hk).1, bRow (z4 k hk).2 F (hp _ (by omega)) (hp _ (by omega))⟩⟩, bRow z5 F (hp _ (by omega)) (hp _ (by omega))⟩, ⟨⟨a', b', c', (obj_at (F.2.2 _ (hp _ (by omega)))).trans o1⟩, bIa o2 F (hp _ (by omega)), bRow o3 F (hp _ (by omega)) (hp _ (by omega))⟩, ⟨⟨ta, (obj_at (F.2.2 _ (hp _ (by omega)))).trans y1⟩, bIa y2 F (hp _ (by omega)), bIa y3 F (hp _ (by omega)), bRow y4 F (hp _ (by omega)) (hp _ (by omega)), bRow y5 F (hp _ (by omega)) (hp _ (by omega))⟩, ⟨⟨ca, cb, (obj_at (F.2.2 _ (hp _ (by omega)))).trans x1⟩, bRow x2 F (hp _ (by omega)) (hp _ (by omega)), bRow x3 F (hp _ (by omega)) (hp _ (by omega)), ⟨TC, x4.fr F (fun q q1 q2 => hp q (by omega))⟩, bRow x6 F (hp _ (by omega)) (hp _ (by omega))⟩⟩
theorem Scr.o {h h' : am_H} (C : Scr h) (F : Fr (fun q => 12 ≤ q ∧ q < 14) h h') (m : ∃ n f, RowAt h' 12 192 n f) : Scr h' := by
  have hp : ∀ q, q < 12 ∨ 14 ≤ q → ¬ ((fun q => 12 ≤ q ∧ q < 14) q) := fun q h1 h2 => by have h2 : 12 ≤ q ∧ q < 14 := h2; omega
  obtain ⟨s1, s2, -, ⟨T, u0, u1, u2⟩, ⟨n1, n2, n3, n4, n5⟩, ⟨⟨ua, ub, uc, z1⟩, z2, ⟨gg, z3, z4⟩, z5⟩, ⟨⟨a', b', c', o1⟩, o2, o3⟩, ⟨⟨ta, y1⟩, y2, y3, y4, y5⟩, ⟨⟨ca, cb, x1⟩, x2, x3, ⟨TC, x4⟩, x6⟩⟩ := C
  exact ⟨bRow s1 F (hp _ (by omega)) (hp _ (by omega)), bRow s2 F (hp _ (by omega)) (hp _ (by omega)), m, ⟨T, u0.fr F (fun q q1 q2 => hp q (by omega)), u1, u2⟩, ⟨(obj_at (F.2.2 _ (hp _ (by omega)))).trans n1, bIa n2 F (hp _ (by omega)), bIa n3 F (hp _ (by omega)), bIa n4 F (hp _ (by omega)), bRow n5 F (hp _ (by omega)) (hp _ (by omega))⟩, ⟨⟨ua, ub, uc, (obj_at (F.2.2 _ (hp _ (by omega)))).trans z1⟩, bRow z2 F (hp _ (by omega)) (hp _ (by omega)), ⟨gg, (ra_at (F.2.2 _ (hp _ (by omega)))).trans z3, fun k hk => ⟨(z4 k hk).1, bRow (z4 k hk).2 F (hp _ (by omega)) (hp _ (by omega))⟩⟩, bRow z5 F (hp _ (by omega)) (hp _ (by omega))⟩, ⟨⟨a', b', c', (obj_at (F.2.2 _ (hp _ (by omega)))).trans o1⟩, bIa o2 F (hp _ (by omega)), bRow o3 F (hp _ (by omega)) (hp _ (by omega))⟩, ⟨⟨ta, (obj_at (F.2.2 _ (hp _ (by omega)))).trans y1⟩, bIa y2 F (hp _ (by omega)), bIa y3 F (hp _ (by omega)), bRow y4 F (hp _ (by omega)) (hp _ (by omega)), bRow y5 F (hp _ (by omega)) (hp _ (by omega))⟩, ⟨⟨ca, cb, (obj_at (F.2.2 _ (hp _ (by omega)))).trans x1⟩, bRow x2 F (hp _ (by omega)) (hp _ (by omega)), bRow x3 F (hp _ (by omega)) (hp _ (by omega)), ⟨TC, x4.fr F (fun q q1 q2 => hp q (by omega))⟩, bRow x6 F (hp _ (by omega)) (hp _ (by omega))⟩⟩
theorem Scr.M {h h' : am_H} (C : Scr h) (F : Fr (fun q => 24 ≤ q ∧ q < 30) h h') (m : am_obj 24 2 h' = some [.ref 25, .ref 26, .ref 27, .ref 28] ∧ (∃ f, am_ia 0 25 h' = some (25, f)) ∧ (∃ f, am_ia 0 26 h' = some (25, f)) ∧ (∃ f, am_ia 0 27 h' = some (10, f)) ∧ ∃ n f, RowAt h' 28 24 n f) : Scr h' := by
  have hp : ∀ q, q < 24 ∨ 30 ≤ q → ¬ ((fun q => 24 ≤ q ∧ q < 30) q) := fun q h1 h2 => by have h2 : 24 ≤ q ∧ q < 30 := h2; omega
  obtain ⟨s1, s2, s3, ⟨T, u0, u1, u2⟩, -, ⟨⟨ua, ub, uc, z1⟩, z2, ⟨gg, z3, z4⟩, z5⟩, ⟨⟨a', b', c', o1⟩, o2, o3⟩, ⟨⟨ta, y1⟩, y2, y3, y4, y5⟩, ⟨⟨ca, cb, x1⟩, x2, x3, ⟨TC, x4⟩, x6⟩⟩ := C
  exact ⟨bRow s1 F (hp _ (by omega)) (hp _ (by omega)), bRow s2 F (hp _ (by omega)) (hp _ (by omega)), bRow s3 F (hp _ (by omega)) (hp _ (by omega)), ⟨T, u0.fr F (fun q q1 q2 => hp q (by omega)), u1, u2⟩, m, ⟨⟨ua, ub, uc, (obj_at (F.2.2 _ (hp _ (by omega)))).trans z1⟩, bRow z2 F (hp _ (by omega)) (hp _ (by omega)), ⟨gg, (ra_at (F.2.2 _ (hp _ (by omega)))).trans z3, fun k hk => ⟨(z4 k hk).1, bRow (z4 k hk).2 F (hp _ (by omega)) (hp _ (by omega))⟩⟩, bRow z5 F (hp _ (by omega)) (hp _ (by omega))⟩, ⟨⟨a', b', c', (obj_at (F.2.2 _ (hp _ (by omega)))).trans o1⟩, bIa o2 F (hp _ (by omega)), bRow o3 F (hp _ (by omega)) (hp _ (by omega))⟩, ⟨⟨ta, (obj_at (F.2.2 _ (hp _ (by omega)))).trans y1⟩, bIa y2 F (hp _ (by omega)), bIa y3 F (hp _ (by omega)), bRow y4 F (hp _ (by omega)) (hp _ (by omega)), bRow y5 F (hp _ (by omega)) (hp _ (by omega))⟩, ⟨⟨ca, cb, (obj_at (F.2.2 _ (hp _ (by omega)))).trans x1⟩, bRow x2 F (hp _ (by omega)) (hp _ (by omega)), bRow x3 F (hp _ (by omega)) (hp _ (by omega)), ⟨TC, x4.fr F (fun q q1 q2 => hp q (by omega))⟩, bRow x6 F (hp _ (by omega)) (hp _ (by omega))⟩⟩
theorem Scr.U {h h' : am_H} (C : Scr h) (F : Fr (fun q => 30 ≤ q ∧ q < 60) h h') (m : (∃ a b c, am_obj 30 5 h' = some [.ref 31, .ref 33, .ref 34, .int a, .int b, .int c]) ∧ (∃ n f, RowAt h' 31 24 n f) ∧ (∃ g, am_ra 4 33 h' = some (12, g) ∧ ∀ k, k < 12 → g k = 36 + 2 * k ∧ ∃ n f, RowAt h' (36 + 2 * k) 24 n f) ∧ ∃ n f, RowAt h' 34 24 n f) : Scr h' := by
  have hp : ∀ q, q < 30 ∨ 60 ≤ q → ¬ ((fun q => 30 ≤ q ∧ q < 60) q) := fun q h1 h2 => by have h2 : 30 ≤ q ∧ q < 60 := h2; omega
  obtain ⟨s1, s2, s3, ⟨T, u0, u1, u2⟩, ⟨n1, n2, n3, n4, n5⟩, -, ⟨⟨a', b', c', o1⟩, o2, o3⟩, ⟨⟨ta, y1⟩, y2, y3, y4, y5⟩, ⟨⟨ca, cb, x1⟩, x2, x3, ⟨TC, x4⟩, x6⟩⟩ := C
  exact ⟨bRow s1 F (hp _ (by omega)) (hp _ (by omega)), bRow s2 F (hp _ (by omega)) (hp _ (by omega)), bRow s3 F (hp _ (by omega)) (hp _ (by omega)), ⟨T, u0.fr F (fun q q1 q2 => hp q (by omega)), u1, u2⟩, ⟨(obj_at (F.2.2 _ (hp _ (by omega)))).trans n1, bIa n2 F (hp _ (by omega)), bIa n3 F (hp _ (by omega)), bIa n4 F (hp _ (by omega)), bRow n5 F (hp _ (by omega)) (hp _ (by omega))⟩, m, ⟨⟨a', b', c', (obj_at (F.2.2 _ (hp _ (by omega)))).trans o1⟩, bIa o2 F (hp _ (by omega)), bRow o3 F (hp _ (by omega)) (hp _ (by omega))⟩, ⟨⟨ta, (obj_at (F.2.2 _ (hp _ (by omega)))).trans y1⟩, bIa y2 F (hp _ (by omega)), bIa y3 F (hp _ (by omega)), bRow y4 F (hp _ (by omega)) (hp _ (by omega)), bRow y5 F (hp _ (by omega)) (hp _ (by omega))⟩, ⟨⟨ca, cb, (obj_at (F.2.2 _ (hp _ (by omega)))).trans x1⟩, bRow x2 F (hp _ (by omega)) (hp _ (by omega)), bRow x3 F (hp _ (by omega)) (hp _ (by omega)), ⟨TC, x4.fr F (fun q q1 q2 => hp q (by omega))⟩, bRow x6 F (hp _ (by omega)) (hp _ (by omega))⟩⟩
theorem Scr.O {h h' : am_H} (C : Scr h) (F : Fr (fun q => 60 ≤ q ∧ q < 64) h h') (m : (∃ a b c, am_obj 60 3 h' = some [.ref 61, .ref 62, .int a, .int b, .int c]) ∧ (∃ f, am_ia 0 61 h' = some (16, f)) ∧ ∃ n f, RowAt h' 62 256 n f) : Scr h' := by
  have hp : ∀ q, q < 60 ∨ 64 ≤ q → ¬ ((fun q => 60 ≤ q ∧ q < 64) q) := fun q h1 h2 => by have h2 : 60 ≤ q ∧ q < 64 := h2; omega
  obtain ⟨s1, s2, s3, ⟨T, u0, u1, u2⟩, ⟨n1, n2, n3, n4, n5⟩, ⟨⟨ua, ub, uc, z1⟩, z2, ⟨gg, z3, z4⟩, z5⟩, -, ⟨⟨ta, y1⟩, y2, y3, y4, y5⟩, ⟨⟨ca, cb, x1⟩, x2, x3, ⟨TC, x4⟩, x6⟩⟩ := C
  exact ⟨bRow s1 F (hp _ (by omega)) (hp _ (by omega)), bRow s2 F (hp _ (by omega)) (hp _ (by omega)), bRow s3 F (hp _ (by omega)) (hp _ (by omega)), ⟨T, u0.fr F (fun q q1 q2 => hp q (by omega)), u1, u2⟩, ⟨(obj_at (F.2.2 _ (hp _ (by omega)))).trans n1, bIa n2 F (hp _ (by omega)), bIa n3 F (hp _ (by omega)), bIa n4 F (hp _ (by omega)), bRow n5 F (hp _ (by omega)) (hp _ (by omega))⟩, ⟨⟨ua, ub, uc, (obj_at (F.2.2 _ (hp _ (by omega)))).trans z1⟩, bRow z2 F (hp _ (by omega)) (hp _ (by omega)), ⟨gg, (ra_at (F.2.2 _ (hp _ (by omega)))).trans z3, fun k hk => ⟨(z4 k hk).1, bRow (z4 k hk).2 F (hp _ (by omega)) (hp _ (by omega))⟩⟩, bRow z5 F (hp _ (by omega)) (hp _ (by omega))⟩, m, ⟨⟨ta, (obj_at (F.2.2 _ (hp _ (by omega)))).trans y1⟩, bIa y2 F (hp _ (by omega)), bIa y3 F (hp _ (by omega)), bRow y4 F (hp _ (by omega)) (hp _ (by omega)), bRow y5 F (hp _ (by omega)) (hp _ (by omega))⟩, ⟨⟨ca, cb, (obj_at (F.2.2 _ (hp _ (by omega)))).trans x1⟩, bRow x2 F (hp _ (by omega)) (hp _ (by omega)), bRow x3 F (hp _ (by omega)) (hp _ (by omega)), ⟨TC, x4.fr F (fun q q1 q2 => hp q (by omega))⟩, bRow x6 F (hp _ (by omega)) (hp _ (by omega))⟩⟩
theorem Scr.T {h h' : am_H} (C : Scr h) (F : Fr (fun q => 64 ≤ q ∧ q < 71) h h') (m : (∃ a, am_obj 64 6 h' = some [.ref 65, .ref 66, .ref 67, .ref 69, .int a]) ∧ (∃ f, am_ia 0 65 h' = some (25, f)) ∧ (∃ f, am_ia 0 66 h' = some (16, f)) ∧ (∃ n f, RowAt h' 67 24 n f) ∧ ∃ n f, RowAt h' 69 24 n f) : Scr h' := by
  have hp : ∀ q, q < 64 ∨ 71 ≤ q → ¬ ((fun q => 64 ≤ q ∧ q < 71) q) := fun q h1 h2 => by have h2 : 64 ≤ q ∧ q < 71 := h2; omega
  obtain ⟨s1, s2, s3, ⟨T, u0, u1, u2⟩, ⟨n1, n2, n3, n4, n5⟩, ⟨⟨ua, ub, uc, z1⟩, z2, ⟨gg, z3, z4⟩, z5⟩, ⟨⟨a', b', c', o1⟩, o2, o3⟩, -, ⟨⟨ca, cb, x1⟩, x2, x3, ⟨TC, x4⟩, x6⟩⟩ := C
  exact ⟨bRow s1 F (hp _ (by omega)) (hp _ (by omega)), bRow s2 F (hp _ (by omega)) (hp _ (by omega)), bRow s3 F (hp _ (by omega)) (hp _ (by omega)), ⟨T, u0.fr F (fun q q1 q2 => hp q (by omega)), u1, u2⟩, ⟨(obj_at (F.2.2 _ (hp _ (by omega)))).trans n1, bIa n2 F (hp _ (by omega)), bIa n3 F (hp _ (by omega)), bIa n4 F (hp _ (by omega)), bRow n5 F (hp _ (by omega)) (hp _ (by omega))⟩, ⟨⟨ua, ub, uc, (obj_at (F.2.2 _ (hp _ (by omega)))).trans z1⟩, bRow z2 F (hp _ (by omega)) (hp _ (by omega)), ⟨gg, (ra_at (F.2.2 _ (hp _ (by omega)))).trans z3, fun k hk => ⟨(z4 k hk).1, bRow (z4 k hk).2 F (hp _ (by omega)) (hp _ (by omega))⟩⟩, bRow z5 F (hp _ (by omega)) (hp _ (by omega))⟩, ⟨⟨a', b', c', (obj_at (F.2.2 _ (hp _ (by omega)))).trans o1⟩, bIa o2 F (hp _ (by omega)), bRow o3 F (hp _ (by omega)) (hp _ (by omega))⟩, m, ⟨⟨ca, cb, (obj_at (F.2.2 _ (hp _ (by omega)))).trans x1⟩, bRow x2 F (hp _ (by omega)) (hp _ (by omega)), bRow x3 F (hp _ (by omega)) (hp _ (by omega)), ⟨TC, x4.fr F (fun q q1 q2 => hp q (by omega))⟩, bRow x6 F (hp _ (by omega)) (hp _ (by omega))⟩⟩
theorem Scr.C {h h' : am_H} (C : Scr h) (F : Fr (fun q => 71 ≤ q ∧ q < 88) h h') (m : (∃ a b, am_obj 71 1 h' = some [.ref 72, .ref 74, .ref 76, .ref 86, .int a, .int b]) ∧ (∃ n f, RowAt h' 72 40 n f) ∧ (∃ n f, RowAt h' 74 40 n f) ∧ (∃ T, Rws h' 76 9 1153 T) ∧ ∃ n f, RowAt h' 86 8 n f) : Scr h' := by
  have hp : ∀ q, q < 71 ∨ 88 ≤ q → ¬ ((fun q => 71 ≤ q ∧ q < 88) q) := fun q h1 h2 => by have h2 : 71 ≤ q ∧ q < 88 := h2; omega
  obtain ⟨s1, s2, s3, ⟨T, u0, u1, u2⟩, ⟨n1, n2, n3, n4, n5⟩, ⟨⟨ua, ub, uc, z1⟩, z2, ⟨gg, z3, z4⟩, z5⟩, ⟨⟨a', b', c', o1⟩, o2, o3⟩, ⟨⟨ta, y1⟩, y2, y3, y4, y5⟩, -⟩ := C
  exact ⟨bRow s1 F (hp _ (by omega)) (hp _ (by omega)), bRow s2 F (hp _ (by omega)) (hp _ (by omega)), bRow s3 F (hp _ (by omega)) (hp _ (by omega)), ⟨T, u0.fr F (fun q q1 q2 => hp q (by omega)), u1, u2⟩, ⟨(obj_at (F.2.2 _ (hp _ (by omega)))).trans n1, bIa n2 F (hp _ (by omega)), bIa n3 F (hp _ (by omega)), bIa n4 F (hp _ (by omega)), bRow n5 F (hp _ (by omega)) (hp _ (by omega))⟩, ⟨⟨ua, ub, uc, (obj_at (F.2.2 _ (hp _ (by omega)))).trans z1⟩, bRow z2 F (hp _ (by omega)) (hp _ (by omega)), ⟨gg, (ra_at (F.2.2 _ (hp _ (by omega)))).trans z3, fun k hk => ⟨(z4 k hk).1, bRow (z4 k hk).2 F (hp _ (by omega)) (hp _ (by omega))⟩⟩, bRow z5 F (hp _ (by omega)) (hp _ (by omega))⟩, ⟨⟨a', b', c', (obj_at (F.2.2 _ (hp _ (by omega)))).trans o1⟩, bIa o2 F (hp _ (by omega)), bRow o3 F (hp _ (by omega)) (hp _ (by omega))⟩, ⟨⟨ta, (obj_at (F.2.2 _ (hp _ (by omega)))).trans y1⟩, bIa y2 F (hp _ (by omega)), bIa y3 F (hp _ (by omega)), bRow y4 F (hp _ (by omega)) (hp _ (by omega)), bRow y5 F (hp _ (by omega)) (hp _ (by omega))⟩, m⟩
section CU
variable {Z : sZ} {S : sS} {pb pv : Nat → Nat} {h : am_H}
theorem RX.scr {P : Nat → Prop} {h' : am_H} (C : RX Z S pb pv h) (F : Fr P h h') (hP : ∀ q, P q → 8 ≤ q ∧ q < 88) (s : Scr h') : RX Z S pb pv h' := by
  have hq : ∀ q, q < 8 ∨ 88 ≤ q → ¬ P q := fun q h1 h2 => by have := hP q h2; omega
  obtain ⟨f2, a2, b2⟩ := C.2.1
  obtain ⟨f3, a3, b3⟩ := C.2.2.1
  obtain ⟨⟨pn, k1⟩, k2, k3, ⟨f4, a4, b4⟩, ⟨f5, a5, b5⟩, k6, k7, k8, k9, k10⟩ := C
  exact ⟨⟨pn, (obj_at (F.2.2 _ (hq _ (by omega)))).trans k1⟩, ⟨f2, a2.fr F (hq _ (by omega)) (hq _ (by omega)), b2⟩, ⟨f3, a3.fr F (hq _ (by omega)) (hq _ (by omega)), b3⟩, ⟨f4, (ra_at (F.2.2 _ (hq _ (by omega)))).trans a4, b4⟩, ⟨f5, (ra_at (F.2.2 _ (hq _ (by omega)))).trans a5, b5⟩, fun b hb => (k6 b hb).fr F (fun q q1 _ => hq q (by unfold rD at q1; omega)), fun v hv => (k7 v hv).fr F (fun q q1 _ => hq q (by unfold rD at q1; omega)), s, k9, F.1.trans k10⟩
theorem RX.sgAt (w : WF S) (C : RX Z S pb pv h) {b : Nat} (hb : b < nb S) (ht : tn S b = false) : SgAt h (rD (pb b) + 5) (ln S b) (sg S b) := by
  obtain ⟨f, r, hf⟩ := BlkAt.sg w C hb ht
  exact ⟨by unfold rD; omega, ⟨f, r, hf⟩, (w.2.2.1.2 b hb).1.2, (w.2.2.1.2 b hb).2⟩
theorem RX.ma (C : RX Z S pb pv h) : ∃ L F N m f, MA h L F N m f := by
  obtain ⟨s1, s2, s3, s4, ⟨n1, ⟨L, n2⟩, ⟨F, n3⟩, ⟨N, n4⟩, ⟨m, f, n5⟩⟩, s6⟩ := C.2.2.2.2.2.2.2.1
  exact ⟨L, F, N, m, f, n1, n2, n3, n4, n5⟩
/-- the block's mates -/
theorem mates_t (w : WF S) (C : RX Z S pb pv h) {b : Nat} (hb : b < nb S) (ht : tn S b = false) : ∃ h' L F N f, F_X2_squeeze 24 (rD (pb b) + 5) h = some h' ∧ RX Z S pb pv h' ∧ MA h' L F N (cutP (sg S b) (ln S b)).1 f ∧ Fr inM h h' ∧ (∀ j, j < (cutP (sg S b) (ln S b)).1 → f j = nI ((cutP (sg S b) (ln S b)).2 j)) ∧ L 0 = nI (tb (sg S b) (ln S b) (ln S b) 0).1 := by
  obtain ⟨L, F, N, m, f, M⟩ := C.ma
  obtain ⟨h', L', F', N', f', e, r, M', G, g1, g2⟩ := squeezeM_t (C.sgAt w hb ht) M
  exact ⟨h', L', F', N', f', e, C.scr G (fun q z => by unfold inM at z; omega) (C.2.2.2.2.2.2.2.1.M G ⟨M'.1, ⟨_, M'.2.1⟩, ⟨_, M'.2.2.1⟩, ⟨_, M'.2.2.2.1⟩, ⟨_, _, M'.2.2.2.2⟩⟩), M', G, g1, g2⟩
def sp_cut (S : sS) (b i : Int32) : Int32 := if vd (nb S) b then (if tn S b.toNatClampNeg = true then -100005 else if i = -1 then nI (cutP (sg S b.toNatClampNeg) (ln S b.toNatClampNeg)).1 else if vd (cutP (sg S b.toNatClampNeg) (ln S b.toNatClampNeg)).1 i then nI ((cutP (sg S b.toNatClampNeg) (ln S b.toNatClampNeg)).2 i.toNatClampNeg) else -1) else -100001
theorem x_cut (w : WF S) (C : RX Z S pb pv h) (b i : Int32) : ∃ h', F_X8_cut 1 b i h = some (sp_cut S b i, h') ∧ RX Z S pb pv h' ∧ Fr inM h h' := by
  unfold sp_cut F_X8_cut F_X8_cut_b F_X8_cut_63
  rw [C.ob]
  by_cases hb : vd (nb S) b
  · obtain ⟨j, hj, rfl⟩ := nI_of_toInt hb.1 hb.2
    have hn := w.2.2.1.1
    have hl := (w.2.2.1.2 j hj).1
    have B := C.2.2.2.2.2.1 j hj
    rw [if_pos hb, cl_nI (show j < 2 ^ 31 by omega), blockOf_t w C hj, Option.bind_some, if_neg (rD_ne _), B.f.2.2.2, Option.bind_some]
    cases ht : tn S j with
    | true =>
      rw [if_neg (show ¬ bI true = 0 by decide), if_pos (rfl : true = true)]
      exact ⟨h, rfl, C, Fr.rf⟩
    | false =>
      obtain ⟨h', L, F, N, f, e, C', M, G, g1, g2⟩ := mates_t w C hj ht
      have hc := cut_le (s := sg S j) (n := ln S j)
      refine ⟨h', ?_, C', G⟩
      rw [if_pos (show bI false = 0 from rfl), if_neg (show ¬ false = true by decide), C.gr (k := 11) (x := 24) (fun _ => rfl), Option.bind_some, B.f.1, Option.bind_some, e, Option.bind_some, C'.gr (k := 11) (x := 24) (fun _ => rfl), Option.bind_some, M.gr.2.2.2, Option.bind_some, row_length M.2.2.2.2, Option.bind_some]
      by_cases c : i = -1
      · rw [if_pos c, if_pos c]
      · rw [if_neg c, if_neg c, Option.bind_some, M.gr.2.2.2, Option.bind_some, row_at_any M.2.2.2.2, Option.bind_some]
        by_cases c2 : vd (cutP (sg S j) (ln S j)).1 i
        · obtain ⟨z, hz, rfl⟩ := nI_of_toInt c2.1 c2.2
          rw [if_pos c2, if_pos c2, cl_nI (by omega), g1 z hz]
        · rw [if_neg c2, if_neg c2]
  · rw [if_neg hb, blockOf_f w C hb, Option.bind_some, if_pos rfl]
    exact ⟨h, rfl, C, Fr.rf⟩
end CU
section CUM
variable {X : Fin 87 → am_C} {I : Nat → Int32} {A : Nat → Nat → Int32} {Y : am_H} {S : sS}
theorem RM_IA {I' : Nat → Int32} {A' : Nat → Nat → Int32} (R : RM S I A) (hI : ∀ k, k = 0 ∨ k = 2 ∨ k = 6 ∨ k = 39 → I' k = I k) (hA : ∀ q, q = 1 ∨ q = 40 ∨ (3 ≤ q ∧ q ≤ 12) → A' q = A q) : RM S I' A' := RM_keep R ⟨hI _ (by omega), hI _ (by omega), hI _ (by omega), hI _ (by omega)⟩ ⟨hA _ (by omega), hA _ (by omega), hA _ (by omega), hA _ (by omega), hA _ (by omega), hA _ (by omega), hA _ (by omega), hA _ (by omega), hA _ (by omega), hA _ (by omega), hA _ (by omega)⟩
theorem m_cut (w : WF S) (R : RM S I A) (b i : Int32) : ∃ I' A', F_X9_cut 88 b i (md X I A Y) = some (sp_cut S b i, md X I' A' Y) ∧ RM S I' A' := by
  unfold sp_cut F_X9_cut F_X9_cut_b F_X9_cut_66
  rw [md_obj, Option.bind_some]
  by_cases hb : vd (nb S) b
  · obtain ⟨j, hj, rfl⟩ := nI_of_toInt hb.1 hb.2
    have hn := w.2.2.1.1
    have hl := (w.2.2.1.2 j hj).1
    rw [if_pos hb, cl_nI (show j < 2 ^ 31 by omega), noB_t w R hb, Option.bind_some, if_pos rfl, md_gr5, Option.bind_some, A5 w R hj, Option.bind_some]
    cases ht : tn S j with
    | true =>
      rw [if_neg (show ¬ bI true = 0 by decide), if_pos (rfl : true = true)]
      exact ⟨I, A, rfl, R⟩
    | false =>
      obtain ⟨I', A', e, i1, i2, i3, i4, -⟩ := findCuts_t (X := X) (Y := Y) w R hj
      have hc := cut_le (s := sg S j) (n := ln S j)
      have R' : RM S I' A' := RM_IA R (fun k hk => i1 k (by omega)) (fun q hq => i2 q (by omega) (by omega))
      refine ⟨I', A', ?_, R'⟩
      rw [if_pos (show bI false = 0 from rfl), if_neg (show ¬ false = true by decide), e, Option.bind_some, md_gi22, Option.bind_some, i3]
      by_cases c : i = -1
      · rw [if_pos c, if_pos c]
      · rw [if_neg c, if_neg c, Option.bind_some, in_spec, Option.bind_some, Int32.toInt_toInt64, Int32.toInt_toInt64, nI_pre (by omega), show (0 : Int64).toInt = 0 from rfl]
        by_cases c2 : vd (cutP (sg S j) (ln S j)).1 i
        · rw [if_pos (show 0 ≤ i.toInt ∧ i.toInt ≤ ((cutP (sg S j) (ln S j)).1 : Int) - 1 by unfold vd at c2; omega), if_neg i1ne0, if_pos c2]
          obtain ⟨z, hz, rfl⟩ := nI_of_toInt c2.1 c2.2
          rw [md_gr21, Option.bind_some, md_il21, ix_nI (show z < 24 by omega) (by decide), Option.bind_some, Option.bind_some, i4 z hz, cl_nI (by omega)]
        · rw [if_neg (show ¬ (0 ≤ i.toInt ∧ i.toInt ≤ ((cutP (sg S j) (ln S j)).1 : Int) - 1) by unfold vd at c2; omega), if_pos rfl, if_neg c2]
  · rw [if_neg hb, noB_f w R hb, Option.bind_some, if_neg i1ne0]
    exact ⟨I, A, rfl, R⟩
end CUM
section OPS8
variable {Z : sZ}
theorem o_cut : am_op_cut (Inv Z) := by
  rintro h a0 a1 ⟨S, pb, pv, X, I, A, Y, w, R, rfl, C, hn⟩
  obtain ⟨h1, e, C', F⟩ := x_cut w C a0 a1
  obtain ⟨h2, e2, hI⟩ := Inv.fin (f := F_X9_cut 88 a0 a1) (r := sp_cut S a0 a1) w (fun q q1 q2 => F.2.2 q (by unfold inM; omega)) C' (by rw [F.2.1]; exact hn) (fun X Y => m_cut w R a0 a1)
  exact ⟨_, h1, h2, e, e2, hI⟩
end OPS8
