/-! THE START -/
def H8 : am_H := [.inr (.inr (8, [.ref 2, .ref 4, .ref 6, .int 0, .ref 7, .int 0, .ref 8, .int 0, .ref 10, .ref 12, .ref 14, .ref 24, .ref 30, .ref 60, .ref 64, .ref 71])), .inr (.inr (4, [.ref 3, .int 0])), .inl (0, 96, fun _ => 0), .inr (.inr (4, [.ref 5, .int 0])), .inl (0, 12, fun _ => 0), .inr (.inl (2, 200, fun _ => 0)), .inr (.inl (3, 30, fun _ => 0)), .inr (.inr (4, [.ref 9, .int 0])), .inl (0, 8, fun _ => 0), .inr (.inr (4, [.ref 11, .int 0])), .inl (0, 25, fun _ => 0), .inr (.inr (4, [.ref 13, .int 0])), .inl (0, 192, fun _ => 0), .inr (.inl (5, 9, fun i => if i < 9 then 15 + i else 0)), .inl (0, 9, fun _ => 0), .inl (0, 9, fun _ => 0), .inl (0, 9, fun _ => 0), .inl (0, 9, fun _ => 0), .inl (0, 9, fun _ => 0), .inl (0, 9, fun _ => 0), .inl (0, 9, fun _ => 0), .inl (0, 9, fun _ => 0), .inl (0, 9, fun _ => 0), .inr (.inr (2, [.ref 25, .ref 26, .ref 27, .ref 28])), .inl (0, 25, fun _ => 0), .inl (0, 25, fun _ => 0), .inl (0, 10, fun _ => 0), .inr (.inr (4, [.ref 29, .int 0])), .inl (0, 24, fun _ => 0), .inr (.inr (5, [.ref 31, .ref 33, .ref 34, .int 0, .int (-1), .int (-1)])), .inr (.inr (4, [.ref 32, .int 0])), .inl (0, 24, fun _ => 0), .inr (.inl (4, 12, (va_up (va_up (va_up (va_up (va_up (va_up (va_up (va_up (va_up (va_up (va_up (va_up (fun _ => 0) 0 36) 1 38) 2 40) 3 42) 4 44) 5 46) 6 48) 7 50) 8 52) 9 54) 10 56) 11 58))), .inr (.inr (4, [.ref 35, .int 0])), .inl (0, 24, fun _ => 0), .inr (.inr (4, [.ref 37, .int 0])), .inl (0, 24, fun _ => 0), .inr (.inr (4, [.ref 39, .int 0])), .inl (0, 24, fun _ => 0), .inr (.inr (4, [.ref 41, .int 0])), .inl (0, 24, fun _ => 0), .inr (.inr (4, [.ref 43, .int 0])), .inl (0, 24, fun _ => 0), .inr (.inr (4, [.ref 45, .int 0])), .inl (0, 24, fun _ => 0), .inr (.inr (4, [.ref 47, .int 0])), .inl (0, 24, fun _ => 0), .inr (.inr (4, [.ref 49, .int 0])), .inl (0, 24, fun _ => 0), .inr (.inr (4, [.ref 51, .int 0])), .inl (0, 24, fun _ => 0), .inr (.inr (4, [.ref 53, .int 0])), .inl (0, 24, fun _ => 0), .inr (.inr (4, [.ref 55, .int 0])), .inl (0, 24, fun _ => 0), .inr (.inr (4, [.ref 57, .int 0])), .inl (0, 24, fun _ => 0), .inr (.inr (4, [.ref 59, .int 0])), .inl (0, 24, fun _ => 0), .inr (.inr (3, [.ref 61, .ref 62, .int 0, .int 65535, .int 0])), .inl (0, 16, fun _ => 0), .inr (.inr (4, [.ref 63, .int 0])), .inl (0, 256, fun _ => 0), .inr (.inr (6, [.ref 65, .ref 66, .ref 67, .ref 69, .int (-1)])), .inl (0, 25, fun _ => 0), .inl (0, 16, fun _ => 0), .inr (.inr (4, [.ref 68, .int 0])), .inl (0, 24, fun _ => 0), .inr (.inr (4, [.ref 70, .int 0])), .inl (0, 24, fun _ => 0), .inr (.inr (1, [.ref 72, .ref 74, .ref 76, .ref 86, .int 0, .int 0])), .inr (.inr (4, [.ref 73, .int 0])), .inl (0, 40, fun _ => 0), .inr (.inr (4, [.ref 75, .int 0])), .inl (0, 40, fun _ => 0), .inr (.inl (5, 9, fun i => if i < 9 then 77 + i else 0)), .inl (0, 1153, fun _ => 0), .inl (0, 1153, fun _ => 0), .inl (0, 1153, fun _ => 0), .inl (0, 1153, fun _ => 0), .inl (0, 1153, fun _ => 0), .inl (0, 1153, fun _ => 0), .inl (0, 1153, fun _ => 0), .inl (0, 1153, fun _ => 0), .inl (0, 1153, fun _ => 0), .inr (.inr (4, [.ref 87, .int 0])), .inl (0, 8, fun _ => 0)]
def H9 : am_H := H8 ++ ((.inr (.inr (9, md_fs (fun _ => 0))) : am_C) :: md_as (fun _ _ => 0))
theorem st8 : ((am_nw 8 []).bind fun p1 => F_X8_init p1.1 p1.2) = some H8 := by rfl
set_option maxRecDepth 20000 in
theorem st9 : ((am_nw 9 H8).bind fun p3 => F_X9_init p3.1 p3.2) = some H9 := by rfl
theorem law_start (L : Nat) (xs : Nat → Int32) : F_L_law_b L xs [] = F_L_law_18 L xs am_F 1 88 (nI (5 * 0)) H9 := by
  have e1 : am_nw 8 [] = some (1, [.inr (.inr (8, am_flds 8))]) := rfl
  have e2 : am_nw 9 H8 = some (88, H8 ++ [.inr (.inr (9, am_flds 9))]) := rfl
  have s8 := st8
  have s9 := st9
  rw [e1, Option.bind_some] at s8
  rw [e2, Option.bind_some] at s9
  unfold F_L_law_b
  rw [e1, Option.bind_some, s8, Option.bind_some, e2, Option.bind_some, s9, Option.bind_some]
  rfl
def S0 : sS := ((0, fun _ => 0), (0, fun _ => 0), (0, fun _ => 0, fun _ _ => 0, fun _ => false), (0, fun _ => 0, fun _ _ => 0, fun _ => 0, fun _ => 0, fun _ _ => 0, fun _ _ => 0))
theorem WF_0 : WF S0 := ⟨⟨by decide, fun j hj => by have hj : j < 0 := hj; omega⟩, ⟨by decide, fun j hj => by have hj : j < 0 := hj; omega⟩, ⟨by decide, fun j hj => by have hj : j < 0 := hj; omega⟩, by decide, fun j hj => by have hj : j < 0 := hj; omega⟩
theorem RM_0 : RM S0 (fun _ => 0) (fun _ _ => 0) := ⟨⟨rfl, fun j hj => by have hj : j < 0 := hj; omega⟩, ⟨rfl, fun j hj => by have hj : j < 0 := hj; omega⟩, ⟨rfl, fun j hj => by have hj : j < 0 := hj; omega⟩, rfl, fun j hj => by have hj : j < 0 := hj; omega⟩
theorem H8_len : H8.length = 87 := rfl
theorem H9_md : H9 = md (fun i => H8[i.val]'(by rw [H8_len]; exact i.isLt)) (fun _ => 0) (fun _ _ => 0) [] := by
  unfold md H9
  rw [List.append_nil]
  congr 1
theorem at9 {r : Nat} (hr : r < 88) : am_at H9 r = am_at H8 r := at_app0 (by rw [H8_len]; omega)
theorem row9 {a n : Nat} (o : am_obj a 4 H8 = some [.ref (a + 1), .int 0]) (i : am_ia 0 (a + 1) H8 = some (n, fun _ => 0)) (hn : n < 100000) : RowAt H9 a n 0 (fun _ => 0) := ⟨⟨obj_app o, ia_app i⟩, Nat.zero_le _, hn⟩
theorem Scr_0 : Scr H9 := by
  refine ⟨⟨_, _, row9 rfl rfl (by decide)⟩, ⟨_, _, row9 rfl rfl (by decide)⟩, ⟨_, _, row9 rfl rfl (by decide)⟩, ⟨fun _ _ => 0, ⟨_, ra_app rfl, fun i hi => ?_⟩, fun _ _ => rfl, fun _ _ => rfl⟩, ⟨obj_app rfl, ⟨_, ia_app rfl⟩, ⟨_, ia_app rfl⟩, ⟨_, ia_app rfl⟩, _, _, row9 rfl rfl (by decide)⟩, ⟨⟨_, _, _, obj_app rfl⟩, ⟨_, _, row9 rfl rfl (by decide)⟩, ⟨_, ra_app rfl, fun k hk => ?_⟩, _, _, row9 rfl rfl (by decide)⟩, ⟨⟨_, _, _, obj_app rfl⟩, ⟨_, ia_app rfl⟩, _, _, row9 rfl rfl (by decide)⟩, ⟨⟨_, obj_app rfl⟩, ⟨_, ia_app rfl⟩, ⟨_, ia_app rfl⟩, ⟨_, _, row9 rfl rfl (by decide)⟩, _, _, row9 rfl rfl (by decide)⟩, ⟨_, _, obj_app rfl⟩, ⟨_, _, row9 rfl rfl (by decide)⟩, ⟨_, _, row9 rfl rfl (by decide)⟩, ⟨fun _ _ => 0, _, ra_app rfl, fun i hi => ?_⟩, _, _, row9 rfl rfl (by decide)⟩
  · match i, hi with
    | 0, _ | 1, _ | 2, _ | 3, _ | 4, _ | 5, _ | 6, _ | 7, _ | 8, _ => exact ⟨rfl, ia_app rfl⟩
  · match k, hk with
    | 0, _ | 1, _ | 2, _ | 3, _ | 4, _ | 5, _ | 6, _ | 7, _ | 8, _ | 9, _ | 10, _ | 11, _ => exact ⟨rfl, _, _, row9 rfl rfl (by decide)⟩
  · match i, hi with
    | 0, _ | 1, _ | 2, _ | 3, _ | 4, _ | 5, _ | 6, _ | 7, _ | 8, _ => exact ⟨rfl, ia_app rfl⟩
theorem H9_len : H9.length = 115 := rfl
theorem RX_0 : RX Zf S0 (fun _ => 0) (fun _ => 0) H9 := by
  refine ⟨⟨0, obj_app rfl⟩, ⟨_, row9 rfl rfl (by decide), fun j hj => ?_⟩, ⟨_, row9 rfl rfl (by decide), fun j hj => ?_⟩, ⟨_, ra_app rfl, fun j hj => ?_⟩, ⟨_, ra_app rfl, fun j hj => ?_⟩, fun j hj => ?_, fun j hj => ?_, Scr_0, ⟨⟨fun j hj => ?_, fun j hj => ?_⟩, fun j _ hj => ?_, fun j _ hj => ?_, fun j _ hj => ?_⟩, H9_len⟩
  all_goals (have hj : j < 0 := hj; omega)
theorem Inv_0 : Inv Zf H9 := by
  have e := H9_md
  refine ⟨S0, _, _, _, _, _, _, WF_0, RM_0, e, RX_0, ?_⟩
  decide +kernel
theorem am_main : am_Main := fun L xs hL => by
  rw [law_start]
  obtain ⟨hf, e, S, pb, pv, X, I, A, Y, w, R, eh, C, hn⟩ := am_loop am_ops (L := L) (xs := xs) hL am_F 0 H9 Inv_0 (by omega) (by show _ < 5 * 0 + 5 * 100000; omega)
  have h1 := w.2.2.1.1
  have h2 := w.2.2.2.1
  have h3 := C.2.2.2.2.2.2.2.2.2
  exact ⟨hf, e, by omega, by omega⟩
