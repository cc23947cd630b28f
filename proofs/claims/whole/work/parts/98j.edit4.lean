/-! change, put, strike of the reference -/
def MG (X : Fin 87 → am_C) (Y : am_H) (r : Int32 × sS) (o : Option (Int32 × am_H)) : Prop := ∃ I' A', o = some (r.1, md X I' A' Y) ∧ RM r.2 I' A'
section EM
variable {X : Fin 87 → am_C} {Y : am_H} {S : sS}
theorem MG.no {I : Nat → Int32} {A : Nat → Nat → Int32} (R : RM S I A) (c : Int32) : MG X Y (c, S) (some (c, md X I A Y)) := ⟨I, A, rfl, R⟩
theorem MP.cg {I : Nat → Int32} {A : Nat → Nat → Int32} {n c : Nat} {f g : Nat → Nat} (P : MP I A n f c) (e : ∀ j, j < n → f j = g j) : MP I A n g c := ⟨P.1, P.2.1, fun j hj => by rw [← e j hj]; exact P.2.2 j hj⟩
theorem MP.iA {I I' : Nat → Int32} {A A' : Nat → Nat → Int32} {n c : Nat} {f : Nat → Nat} (P : MP I A n f c) (h1 : I' 16 = I 16) (h2 : I' 17 = I 17) (h3 : A' 15 = A 15) : MP I' A' n f c := ⟨h1.trans P.1, h2.trans P.2.1, fun j hj => by rw [h3]; exact P.2.2 j hj⟩
/-- the blocks behind, and the note -/
theorem end_t {I : Nat → Int32} {A : Nat → Nat → Int32} {v i k a b : Nat} {s : sM} (w : WF S) (hv : v < nv S) (h0 : trn S v = 0) (h30 : nv S < 30) (M : edI S k s) (R : RM s.1 I A) (P : MP I A s.2.1 s.2.2.1 s.2.2.2) (hab : a ≤ b) (hb : b ≤ rl S v) (hba : b - a = rl S v - (i + 1)) (hx : a = i + 1 ∨ b - a = 0) (hn : s.2.1 + (rl S v - (i + 1)) ≤ 8) : MG X Y (nI (nv S), edE S v i s) ((F_X9_takeBlocks 88 (nI v) (nI a) (nI b) (md X I A Y)).bind fun h3 => (F_X9_note 88 (nI v) h3).bind fun q4 => some (q4.1, q4.2)) := by
  obtain ⟨v1, v2, v3⟩ := edI_v M
  obtain ⟨I1, A1, e1, R1, P1, -⟩ := take_t (X := X) (Y := Y) M.1.1 R P (v := v) (a := a) (b := b) (by rw [v1]; exact hv) hab (by rw [v2]; exact hb) (by omega)
  rw [hba, v3] at P1
  have P2 := P1.cg (g := apP s.2.2.1 s.2.1 (rw_ S v) (i + 1)) (fun j hj => by
    rcases hx with hx | hx
    · rw [hx]
    · unfold apP; rw [if_pos (by omega), if_pos (by omega)])
  obtain ⟨I2, A2, e2, R2⟩ := note_t (X := X) (Y := Y) M.1.1 R1 P2 hn (fun j hj => (edE_ok w hv h0 M j hj).1) (by omega) (nI v)
  refine ⟨I2, A2, ?_, R2⟩
  rw [e1, Option.bind_some, e2, Option.bind_some, v1]
/-- one block is laid -/
theorem lay1_t {I : Nat → Int32} {A : Nat → Nat → Int32} {m k : Nat} {g : Nat → Nat} {s : sM} (M : edI S k s) (R : RM s.1 I A) (N : MN I A m g) (P : MP I A s.2.1 s.2.2.1 s.2.2.2) (hm : 1 ≤ m ∧ m ≤ 24) (hg : ∀ k, k < m → g k < 16) (hn : s.2.1 < 9) (hb : nb S + k < 200) : ∃ I' A', F_X9_lay 88 (md X I A Y) = some (md X I' A' Y) ∧ RM (edL s m g).1 I' A' ∧ MP I' A' (edL s m g).2.1 (edL s m g).2.2.1 (edL s m g).2.2.2 ∧ A' 13 = A 13 := by
  have := M.2.1
  obtain ⟨I1, A1, e1, R1, -, P1, e13⟩ := lay_t (X := X) (Y := Y) M.1.1 R N P hm hg hn (by omega)
  exact ⟨I1, A1, e1, R1, P1, e13⟩
theorem split_12 {S1 : sS} {g : Nat → Nat} : ∀ (q k j : Nat) (I : Nat → Int32) (A : Nat → Nat → Int32), RM S1 I A → j + k = 13 → k < q → (∀ i, i < j → A 13 i = nI (g (12 + i))) → (∀ i, j ≤ i → i < 25 → A 13 i = nI (g i)) →
    ∃ A', F_X9_laySplit_12 q 88 (nI j) (md X I A Y) = ((F_X9_lay 88 (md X (upd I 14 (nI 13)) A' Y)).bind fun h3 => some h3) ∧ RM S1 I A' ∧ (∀ i, i < 13 → A' 13 i = nI (g (12 + i))) ∧ ∀ q, q ≠ 13 → A' q = A q
  | 0, k, j, I, A, R, h1, h2, h3, h4 => by omega
  | q + 1, 0, j, I, A, R, h1, h2, h3, h4 => by
    refine ⟨A, ?_, R, fun i hi => h3 i (by omega), fun _ _ => rfl⟩
    rw [F_X9_laySplit_12, if_pos (show (13 : Int32) ≤ nI j from nI_le (a := 13) (by omega) (by omega)), show (13 : Int32) = nI 13 from rfl, md_pi14, Option.bind_some]
  | q + 1, k + 1, j, I, A, R, h1, h2, h3, h4 => by
    have R1 : RM S1 I (upA A 13 j (nI (g (12 + j)))) := RM_IA R (fun _ _ => rfl) (fun q hq => upA_ne (by omega))
    obtain ⟨A', e, R', M', g'⟩ := split_12 (S1 := S1) (g := g) q k (j + 1) I _ R1 (by omega) (by omega) (fun i hi => by
      rw [upA_self]
      by_cases z : i = j
      · rw [z, upd_self]
      · rw [upd_ne z]; exact h3 i (by omega)) (fun i hi hi' => by rw [upA_self, upd_ne (by omega)]; exact h4 i (by omega) hi')
    refine ⟨A', ?_, R', M', fun q hq => (g' q hq).trans (upA_ne hq)⟩
    rw [F_X9_laySplit_12, if_neg (show ¬ (13 : Int32) ≤ nI j from nI_ge (b := 13) (by omega) (by decide)), md_gr13, Option.bind_some, Option.bind_some, show (12 : Int32) = nI 12 from rfl, nI_add, md_il13, ix_nI (show 12 + j < 25 by omega) (by decide), Option.bind_some, Option.bind_some, h4 _ (by omega) (by omega), md_is13, ix_nI (show j < 25 by omega) (by decide), Option.bind_some, Option.bind_some, nI_1]
    exact e
theorem split_t {I : Nat → Int32} {A : Nat → Nat → Int32} {g : Nat → Nat} {s : sM} (M : edI S 0 s) (R : RM s.1 I A) (N : MN I A 25 g) (P : MP I A s.2.1 s.2.2.1 s.2.2.2) (hg : ∀ k, k < 25 → g k < 16) (hn : s.2.1 < 8) (hb : nb S + 2 ≤ 200) : ∃ I' A', F_X9_laySplit 88 (md X I A Y) = some (md X I' A' Y) ∧ RM (plS s 25 g).1 I' A' ∧ MP I' A' (plS s 25 g).2.1 (plS s 25 g).2.2.1 (plS s 25 g).2.2.2 := by
  have eP : plS s 25 g = edL (edL s 12 g) 13 (fun k => g (12 + k)) := rfl
  rw [eP]
  obtain ⟨I1, A1, e1, R1, P1, e13⟩ := lay1_t (X := X) (Y := Y) (I := upd I 14 (nI 12)) (A := A) (m := 12) (g := g) M (RM_IA R (fun k hk => upd_ne (by omega)) (fun _ _ => rfl)) ⟨upd_self, fun k hk => N.2 k (by omega)⟩ (P.iA (upd_ne (by decide)) (upd_ne (by decide)) rfl) ⟨by omega, by omega⟩ (fun k hk => hg k (by omega)) (by omega) (by omega)
  have M1 := edI_step (m := 12) (g := g) M ⟨by omega, by omega⟩ (fun k hk => hg k (by omega)) (by omega)
  obtain ⟨A2, e2, R2, g2, k2⟩ := split_12 (X := X) (Y := Y) (g := g) am_F 13 0 I1 A1 R1 (by omega) (by show _ < 100000; omega) (fun i hi => by omega) (fun i _ hi => by rw [e13]; exact N.2 i hi)
  obtain ⟨I3, A3, e3, R3, P3, -⟩ := lay1_t (X := X) (Y := Y) (I := upd I1 14 (nI 13)) (A := A2) (m := 13) (g := fun k => g (12 + k)) M1 (RM_IA R2 (fun k hk => upd_ne (by omega)) (fun _ _ => rfl)) ⟨upd_self, g2⟩ (P1.iA (upd_ne (by decide)) (upd_ne (by decide)) (k2 15 (by decide))) ⟨by omega, by omega⟩ (fun k hk => hg _ (by omega)) (by show s.2.1 + 1 < 9; omega) (by omega)
  refine ⟨I3, A3, ?_, R3, P3⟩
  unfold F_X9_laySplit F_X9_laySplit_b
  rw [md_obj, Option.bind_some, show (12 : Int32) = nI 12 from rfl, md_pi14, Option.bind_some, e1, Option.bind_some]
  rw [show (0 : Int32) = nI 0 from rfl, e2, e3, Option.bind_some]
theorem m_change {I : Nat → Int32} {A : Nat → Nat → Int32} (w : WF S) (R : RM S I A) (v p x : Int32) : MG X Y (sp_change S v p x) (F_X9_change 88 v p x (md X I A Y)) := by
  unfold sp_change F_X9_change F_X9_change_b
  rw [md_obj, Option.bind_some]
  by_cases c0 : vd (nv S) v
  · obtain ⟨a, ha, rfl⟩ := nI_of_toInt c0.1 c0.2
    have hw := w.2.2.2.1
    have hp := plc_le w ha
    have hnp := noPlace_spec (X := X) (Y := Y) w R ha p 0 (by omega)
    rw [show nI 0 = (0 : Int32) from rfl, Nat.add_zero] at hnp
    rw [cl_nI (by omega), hnp, Option.bind_some]
    by_cases c1 : vd (plc S a) p
    · rw [if_pos (show vd (nv S) (nI a) ∧ vd (plc S a) p from ⟨c0, c1⟩), if_pos c1, if_pos rfl, in_spec, Option.bind_some]
      have ex : ((0 : Int64).toInt ≤ (Int32.toInt64 x).toInt ∧ (Int32.toInt64 x).toInt ≤ (15 : Int64).toInt) ↔ (0 ≤ x.toInt ∧ x.toInt ≤ 15) := by
        rw [show (0 : Int64).toInt = 0 by decide, show (15 : Int64).toInt = 15 by decide, Int32.toInt_toInt64]
      by_cases c2 : 0 ≤ x.toInt ∧ x.toInt ≤ 15
      · rw [if_pos c2, if_pos (ex.mpr c2), if_neg (show ¬ (1 : Int32) = 0 by decide)]
        rw [show F_X9_isFull 88 1 (md X I A Y) = F_X9_isFull 88 (nI 1) (md X I A Y) from rfl, isFull_t w R (by omega), Option.bind_some]
        by_cases c3 : roomS S 1
        · rw [if_pos c3, decide_eq_false (show ¬ ¬ (nv S < 30 ∧ nb S + 1 ≤ 200) from fun z => z c3), if_pos (show bI false = 0 from rfl), tornIn_spec w R ha, Option.bind_some]
          have ht8 := trn_le w ha
          by_cases c4 : trn S a = 0
          · rw [if_pos c4, if_pos (show nI (trn S a) ≤ 0 by rw [c4]; decide)]
            obtain ⟨b, hb, rfl⟩ := nI_of_toInt c1.1 c1.2
            obtain ⟨y, hy, rfl⟩ := nI_of_toInt (n := 16) c2.1 (by have := c2.2; omega)
            rw [cl_nI (show b < 2 ^ 31 by omega), cl_nI (show y < 2 ^ 31 by omega)]
            obtain ⟨l1, l2, l3⟩ := loc_spec hb
            have hbk := (w.2.2.2.2 a ha).1.2 _ l1
            have hr := (w.2.2.2.2 a ha).1.1
            have hl := w.2.2.1.2 _ hbk
            have c3' := id c3
            have Rf : RM S (upd (upd I 18 (nI (loc S a b).1)) 19 (nI (loc S a b).2)) A := RM_IA R (fun k hk => (upd_ne (by omega)).trans (upd_ne (by omega))) (fun _ _ => rfl)
            obtain ⟨b1, Rb, Pb⟩ := begin_t (X := X) (Y := Y) Rf
            obtain ⟨I1, A1, t1, R1, P1, -, -, t19⟩ := take_t (X := X) (Y := Y) w Rb (Pb (fun _ => 0)) ha (Nat.zero_le _) (show (loc S a b).1 ≤ rl S a by omega) (by omega)
            obtain ⟨A2, s1, R2, M2, s2⟩ := signs_t (X := X) (Y := Y) w R1 hbk
            have i19 : upd I1 14 (nI (ln S (rw_ S a (loc S a b).1))) 19 = nI (loc S a b).2 := (upd_ne (by decide)).trans (t19.trans ((upd_ne (by decide)).trans ((upd_ne (by decide)).trans upd_self)))
            have R3 : RM S (upd I1 14 (nI (ln S (rw_ S a (loc S a b).1)))) (upA A2 13 (loc S a b).2 (nI y)) := RM_IA R2 (fun _ _ => rfl) (fun q hq => upA_ne (by omega))
            have M3 : MN (upd I1 14 (nI (ln S (rw_ S a (loc S a b).1)))) (upA A2 13 (loc S a b).2 (nI y)) (ln S (rw_ S a (loc S a b).1)) (gS (sg S (rw_ S a (loc S a b).1)) (loc S a b).2 y 1) := ⟨M2.1, fun k hk => by
              rw [upA_self]
              unfold gS
              by_cases z : k = (loc S a b).2
              · rw [z, upd_self, if_neg (by omega), if_pos rfl]
              · rw [upd_ne z, M2.2 k hk]
                by_cases z2 : k < (loc S a b).2
                · rw [if_pos z2]
                · rw [if_neg z2, if_neg z, show k - 1 + 1 = k by omega]⟩
            rw [Nat.sub_zero, Nat.zero_add] at P1
            have P3 : MP (upd I1 14 (nI (ln S (rw_ S a (loc S a b).1)))) (upA A2 13 (loc S a b).2 (nI y)) (ed0 S a (loc S a b).1).2.1 (ed0 S a (loc S a b).1).2.2.1 (ed0 S a (loc S a b).1).2.2.2 := P1.iA (upd_ne (by decide)) (upd_ne (by decide)) ((upA_ne (by decide)).trans (s2 15 (by decide)))
            have M0 := edI_0 w ha c4 (show (loc S a b).1 ≤ rl S a by omega)
            have hg : ∀ k, k < ln S (rw_ S a (loc S a b).1) → gS (sg S (rw_ S a (loc S a b).1)) (loc S a b).2 y 1 k < 16 := fun k hk => gS_lt hl.2 (by omega) hy (by omega) (by omega) k (by omega)
            obtain ⟨I4, A4, e4, R4, P4, -⟩ := lay1_t (X := X) (Y := Y) M0 R3 M3 P3 hl.1 hg (by show (loc S a b).1 < 9; omega) (by omega)
            have M4 := edI_step M0 hl.1 hg (by omega)
            obtain ⟨v1, v2, v3⟩ := edI_v M4
            have a7 := A7 (X := X) (Y := Y) M4.1.1 R4 (v := a) (by rw [v1]; exact ha)
            rw [v2] at a7
            have E := end_t (X := X) (Y := Y) (i := (loc S a b).1) (a := (loc S a b).1 + 1) (b := rl S a) w ha c4 c3'.1 M4 R4 P4 (by omega) (by omega) rfl (Or.inl rfl) (by show (loc S a b).1 + 1 + _ ≤ 8; omega)
            have eP : plS (ed0 S a (loc S a b).1) (ln S (rw_ S a (loc S a b).1)) (gS (sg S (rw_ S a (loc S a b).1)) (loc S a b).2 y 1) = edL (ed0 S a (loc S a b).1) (ln S (rw_ S a (loc S a b).1)) (gS (sg S (rw_ S a (loc S a b).1)) (loc S a b).2 y 1) := by
              unfold plS
              rw [if_neg (by omega), if_pos (by omega)]
            unfold edR
            rw [eP]
            rw [find_spec w R ha hb, Option.bind_some, md_gi18, Option.bind_some, b1, Option.bind_some, show upd (upd I 18 (nI (loc S a b).1)) 19 (nI (loc S a b).2) 18 = nI (loc S a b).1 from (upd_ne (by decide)).trans upd_self]
            rw [show F_X9_takeBlocks 88 (nI a) 0 (nI (loc S a b).1) (md X (upd (upd (upd (upd I 18 (nI (loc S a b).1)) 19 (nI (loc S a b).2)) 16 (nI 0)) 17 (nI 0)) A Y) = some (md X I1 A1 Y) from t1, Option.bind_some, A8 w R1 ha l1, Option.bind_some, s1, Option.bind_some, md_gr13, Option.bind_some, md_gi19, Option.bind_some, i19, md_is13, ix_nI (show (loc S a b).2 < 25 by omega) (by decide), Option.bind_some, Option.bind_some, e4, Option.bind_some, md_gr7, Option.bind_some, a7, Option.bind_some, nI_1]
            exact E
          · rw [if_neg c4, if_neg (show ¬ nI (trn S a) ≤ 0 from nI_ge (a := 0) (by omega) (by omega))]
            exact MG.no R _
        · rw [if_neg c3, decide_eq_true (show ¬ (nv S < 30 ∧ nb S + 1 ≤ 200) from c3), if_neg (show ¬ bI true = 0 by decide)]
          exact MG.no R _
      · rw [if_neg c2, if_neg (fun z => c2 (ex.mp z)), if_pos rfl]
        exact MG.no R _
    · rw [if_neg (show ¬ (vd (nv S) (nI a) ∧ vd (plc S a) p) from fun z => c1 z.2), if_neg c1, if_neg (show ¬ (1 : Int32) = 0 by decide)]
      exact MG.no R _
  · rw [noPlace_f w R c0, Option.bind_some, if_neg (show ¬ (1 : Int32) = 0 by decide), if_neg (fun z => c0 z.1)]
    exact MG.no R _
end EM
