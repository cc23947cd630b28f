/-! the three ops -/
section OPS9
variable {Z : sZ}
theorem o_change : am_op_change (Inv Z) := by
  rintro h a0 a1 a2 ⟨S, pb, pv, X, I, A, Y, w, R, rfl, C, hn⟩
  obtain ⟨h1, pb1, pv1, e, C', ⟨k, K, ek⟩, w'⟩ := x_change w C a0 a1 a2
  obtain ⟨h2, e2, hI⟩ := Inv.fin (f := F_X9_change 88 a0 a1 a2) (r := (sp_change S a0 a1 a2).1) w' K.1 C' (by have := K.2; omega) (fun X Y => m_change w R a0 a1 a2)
  exact ⟨_, h1, h2, e, e2, hI⟩
theorem o_put : am_op_put (Inv Z) := by
  rintro h a0 a1 a2 ⟨S, pb, pv, X, I, A, Y, w, R, rfl, C, hn⟩
  obtain ⟨h1, pb1, pv1, e, C', ⟨k, K, ek⟩, w'⟩ := x_put w C a0 a1 a2
  obtain ⟨h2, e2, hI⟩ := Inv.fin (f := F_X9_put 88 a0 a1 a2) (r := (sp_put S a0 a1 a2).1) w' K.1 C' (by have := K.2; omega) (fun X Y => m_put w R a0 a1 a2)
  exact ⟨_, h1, h2, e, e2, hI⟩
theorem o_strike : am_op_strike (Inv Z) := by
  rintro h a0 a1 ⟨S, pb, pv, X, I, A, Y, w, R, rfl, C, hn⟩
  obtain ⟨h1, pb1, pv1, e, C', ⟨k, K, ek⟩, w'⟩ := x_strike w C a0 a1
  obtain ⟨h2, e2, hI⟩ := Inv.fin (f := F_X9_strike 88 a0 a1) (r := (sp_strike S a0 a1).1) w' K.1 C' (by have := K.2; omega) (fun X Y => m_strike w R a0 a1)
  exact ⟨_, h1, h2, e, e2, hI⟩
end OPS9
theorem am_ops : am_Ops (Inv Zf) := ⟨o_feed, o_make, o_change, o_put, o_strike, o_about, o_block, o_open, o_told, o_count, o_share, o_size, o_time, o_cut, o_rule, o_bit, o_turned, o_best, o_sign, o_clear, o_seek, o_span, o_tear, o_sums, o_restore, o_send, o_ways, o_bound, o_entropy⟩
