section AMX
variable {g : am_G} {l : Launch} {M Mc : am_M} {h0 hf h h1 : am_H} {r : Option Value} {w : Value} {pc pc' : Nat} {ls ls' : List (Option Value)} {st st' stk : List Value}
theorem am_callV1 {idx n c : Nat} {As : List Value} {fs : List Value} {np : Nat} (hd : decode M.2.1 pc = .ok (.invokevirtual idx, 3)) (hw : am_cw M.1.cls idx Mc np) (w1 : Cond.instanceMethod Mc.1 ∈ am_ts) (w2 : Cond.selects Mc.1.cls Mc.1 Mc.1 ∈ am_ts) (hcl : ∃ q, am_cl[c]? = some q ∧ q.1 = Mc.1.cls) (hfr : Mc.2.2.2.2.1 + 1 ≤ M.2.2.2.2.1) (hlo : 8 + (Mc.2.2.1 + 11) + Mc.2.2.2.2.2 ≤ M.2.2.2.2.2)
    (hst : As.reverse ++ .ref n :: st = stk) (hn : As.length = np) (h8 : (st.map am_ct).sum ≤ 8) (ho : am_obj n c h = some fs) (hM : am_Met g l Mc (.ref n :: As) h (some w) h1) (hp : pc' = pc + 3) (k : am_W g l M h0 r hf pc' ls (w :: st) h1) : am_W g l M h0 r hf pc ls stk h :=
  am_callV hd hw w1 w2 hcl hfr hlo hst hn h8 ho hM hp k
theorem am_callV0 {idx n c : Nat} {As : List Value} {fs : List Value} {np : Nat} (hd : decode M.2.1 pc = .ok (.invokevirtual idx, 3)) (hw : am_cw M.1.cls idx Mc np) (w1 : Cond.instanceMethod Mc.1 ∈ am_ts) (w2 : Cond.selects Mc.1.cls Mc.1 Mc.1 ∈ am_ts) (hcl : ∃ q, am_cl[c]? = some q ∧ q.1 = Mc.1.cls) (hfr : Mc.2.2.2.2.1 + 1 ≤ M.2.2.2.2.1) (hlo : 8 + (Mc.2.2.1 + 11) + Mc.2.2.2.2.2 ≤ M.2.2.2.2.2)
    (hst : As.reverse ++ .ref n :: st = stk) (hn : As.length = np) (h8 : (st.map am_ct).sum ≤ 8) (ho : am_obj n c h = some fs) (hM : am_Met g l Mc (.ref n :: As) h none h1) (hp : pc' = pc + 3) (k : am_W g l M h0 r hf pc' ls st h1) : am_W g l M h0 r hf pc ls stk h :=
  am_callV hd hw w1 w2 hcl hfr hlo hst hn h8 ho hM hp k
theorem am_callI0 {idx n c : Nat} {As : List Value} {fs : List Value} {np : Nat} (hd : decode M.2.1 pc = .ok (.invokespecial idx, 3)) (hw : am_cw M.1.cls idx Mc np) (w1 : Cond.instanceMethod Mc.1 ∈ am_ts) (hnm : Mc.1.name = "<init>") (hrt : Mc.2.2.2.1 = none) (hfr : Mc.2.2.2.2.1 + 1 ≤ M.2.2.2.2.1) (hlo : 8 + (Mc.2.2.1 + 11) + Mc.2.2.2.2.2 ≤ M.2.2.2.2.2)
    (hst : As.reverse ++ .ref n :: st = stk) (hn : As.length = np) (h8 : (st.map am_ct).sum ≤ 8) (ho : am_obj n c h = some fs) (hM : am_Met g l Mc (.ref n :: As) h none h1) (hp : pc' = pc + 3) (k : am_W g l M h0 r hf pc' ls st h1) : am_W g l M h0 r hf pc ls stk h :=
  am_callI hd hw w1 hnm hrt hfr hlo hst hn h8 ho hM hp k
theorem am_callS1 {idx : Nat} {As : List Value} {np : Nat} (hd : decode M.2.1 pc = .ok (.invokestatic idx, 3)) (hw : am_cw M.1.cls idx Mc np) (w1 : Cond.static Mc.1 ∈ am_ts) (hfr : Mc.2.2.2.2.1 + 1 ≤ M.2.2.2.2.1) (hlo : 8 + (Mc.2.2.1 + 11) + Mc.2.2.2.2.2 ≤ M.2.2.2.2.2)
    (hst : As.reverse ++ st = stk) (hn : As.length = np) (h8 : (st.map am_ct).sum ≤ 8) (hM : am_Met g l Mc As h (some w) h1) (hp : pc' = pc + 3) (k : am_W g l M h0 r hf pc' ls (w :: st) h1) : am_W g l M h0 r hf pc ls stk h :=
  am_callS hd hw w1 hfr hlo hst hn h8 hM hp k
theorem am_callS0 {idx : Nat} {As : List Value} {np : Nat} (hd : decode M.2.1 pc = .ok (.invokestatic idx, 3)) (hw : am_cw M.1.cls idx Mc np) (w1 : Cond.static Mc.1 ∈ am_ts) (hfr : Mc.2.2.2.2.1 + 1 ≤ M.2.2.2.2.1) (hlo : 8 + (Mc.2.2.1 + 11) + Mc.2.2.2.2.2 ≤ M.2.2.2.2.2)
    (hst : As.reverse ++ st = stk) (hn : As.length = np) (h8 : (st.map am_ct).sum ≤ 8) (hM : am_Met g l Mc As h none h1) (hp : pc' = pc + 3) (k : am_W g l M h0 r hf pc' ls st h1) : am_W g l M h0 r hf pc ls stk h :=
  am_callS hd hw w1 hfr hlo hst hn h8 hM hp k
theorem am_lookup {dflt : Int} {ps : Array (Int × Int)} {len : Nat} {x : Int32} {off : Int} (hd : decode M.2.1 pc = .ok (.lookupswitch dflt ps, len)) (hp : (ps.toList.zip (ps.toList.drop 1)).all (fun (a, next) => a.1 < next.1) = true) (ho : Op.lookupswitch.offset ps.toList dflt x.toInt = off) (ht : (pc : Int) + off = (pc' : Int)) (k : am_W g l M h0 r hf pc' ls st h) : am_W g l M h0 r hf pc ls (.int x :: st) h :=
  am_pure k (fun C w => lv_lookup C.1.1 C.1.2.1 hd hp ho ht w)
end AMX
