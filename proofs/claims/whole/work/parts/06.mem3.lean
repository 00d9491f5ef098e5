section EVS
variable {l : Launch} {d : Nat} {M : AMt} {pc : Nat} {L S : List Value} {σ : ASt} {Q : Option Value → ASt → Prop}
/-- String constants: the bytes, the coder -/
theorem ev_sval {j idx : Nat} (hj : j < 3) (hw : Cond.fieldLink M.1.cls idx "java/lang/String" "value" "[B" ∈ a_tbl) (hd : decode M.2.1 pc = .ok (.getfield idx, 3)) (kk : Ev l d M (pc + 3) (L, .ref (1000100 + j) :: S, σ) Q) : Ev l d M pc (L, .ref (1000000 + j) :: S, σ) Q := by
  refine Ev.rd (fun p e R s m args below meth c D ad ac A H locs cells slots ls Z hF hG hX hW kw => ?_) kk
  have e1 : a_v ad (.ref (1000000 + j)) = .ref (ad (1000000 + j)) := by simp only [a_v, a_rv]; rw [if_neg (by omega)]
  have e2 : a_v ad (.ref (1000100 + j)) = .ref (ad (1000100 + j)) := by simp only [a_v, a_rv]; rw [if_neg (by omega)]
  simp only [List.map_cons, e1, e2] at kw ⊢
  exact vk_getf hF.1 hF.2.1 (hG.1.1 j hj).2.2.1 hW.2.2.2.2.2.1 hF.2.2.2.1 (hF.2.2.2.2.2.2.2 _ hw) (fun _ h => h) hd kw
theorem ev_scod {j idx : Nat} (hj : j < 3) (hw : Cond.fieldLink M.1.cls idx "java/lang/String" "coder" "B" ∈ a_tbl) (hd : decode M.2.1 pc = .ok (.getfield idx, 3)) (kk : Ev l d M (pc + 3) (L, .int 0 :: S, σ) Q) : Ev l d M pc (L, .ref (1000000 + j) :: S, σ) Q := by
  refine Ev.rd (fun p e R s m args below meth c D ad ac A H locs cells slots ls Z hF hG hX hW kw => ?_) kk
  have e1 : a_v ad (.ref (1000000 + j)) = .ref (ad (1000000 + j)) := by simp only [a_v, a_rv]; rw [if_neg (by omega)]
  simp only [List.map_cons, e1] at kw ⊢
  exact vk_getf hF.1 hF.2.1 (hG.1.1 j hj).2.1 hW.2.2.2.2.2.1 hF.2.2.2.1 (hF.2.2.2.2.2.2.2 _ hw) (fun _ h => h) hd kw
theorem ev_slen {j : Nat} (hj : j < 3) (hd : decode M.2.1 pc = .ok (.arraylength, 1)) (kk : Ev l d M (pc + 1) (L, .int (nI (a_sl.getD j 0)) :: S, σ) Q) : Ev l d M pc (L, .ref (1000100 + j) :: S, σ) Q := by
  refine Ev.rd (fun p e R s m args below meth c D ad ac A H locs cells slots ls Z hF hG hX hW kw => ?_) kk
  have e2 : a_v ad (.ref (1000100 + j)) = .ref (ad (1000100 + j)) := by simp only [a_v, a_rv]; rw [if_neg (by omega)]
  simp only [List.map_cons, e2]
  exact va_tlen hF.1 hF.2.1 (hG.1.1 j hj).2.2.2 hW.2.2.2.2.2.1 rfl hd kw
theorem ev_sbyt {j : Nat} {i : Int32} (hj : j < 3) (hi : vp_in i (a_sl.getD j 0)) (hd : decode M.2.1 pc = .ok (.baload, 1)) (kk : Ev l d M (pc + 1) (L, .int ((a_sb.getD j []).getD i.toNatClampNeg 0) :: S, σ) Q) : Ev l d M pc (L, .int i :: .ref (1000100 + j) :: S, σ) Q := by
  refine Ev.rd (fun p e R s m args below meth c D ad ac A H locs cells slots ls Z hF hG hX hW kw => ?_) kk
  have e2 : a_v ad (.ref (1000100 + j)) = .ref (ad (1000100 + j)) := by simp only [a_v, a_rv]; rw [if_neg (by omega)]
  simp only [List.map_cons, e2]
  exact va_tb hF.1 hF.2.1 (hG.1.1 j hj).2.2.2 hW.2.2.2.2.2.1 hi rfl hd kw
theorem ev_compact {idx : Nat} (hw : Cond.fieldLink M.1.cls idx "java/lang/String" "COMPACT_STRINGS" "Z" ∈ a_tbl) (hd : decode M.2.1 pc = .ok (.getstatic idx, 3)) (kk : Ev l d M (pc + 3) (L, .int 1 :: S, σ) Q) : Ev l d M pc (L, S, σ) Q := by
  refine Ev.rd (fun p e R s m args below meth c D ad ac A H locs cells slots ls Z hF hG hX hW kw => ?_) kk
  exact va_gets hF.1 hF.2.1 hG.2.2.1 hW.2.2.2.2.2.1 hF.2.2.2.1 (hF.2.2.2.2.2.2.2 _ hw) (fun _ h => h) hd kw
theorem ev_fmt {idx : Nat} (hw : Cond.fieldLink M.1.cls idx "jdk/internal/util/Preconditions" "SIOOBE_FORMATTER" "Ljava/util/function/BiFunction;" ∈ a_tbl) (hd : decode M.2.1 pc = .ok (.getstatic idx, 3)) (kk : Ev l d M (pc + 3) (L, .ref 1500000 :: S, σ) Q) : Ev l d M pc (L, S, σ) Q := by
  refine Ev.rd (fun p e R s m args below meth c D ad ac A H locs cells slots ls Z hF hG hX hW kw => ?_) kk
  exact va_gets hF.1 hF.2.1 hG.2.2.2.1 hW.2.2.2.2.2.1 hF.2.2.2.1 (hF.2.2.2.2.2.2.2 _ hw) (fun _ h => h) hd kw
/-- the law's script -/
theorem ev_scrl {n : Nat} {xs : Nat → Int32} (hx : M.2.2.2.2 = some (n, xs)) (hd : decode M.2.1 pc = .ok (.arraylength, 1)) (kk : Ev l d M (pc + 1) (L, .int (nI n) :: S, σ) Q) : Ev l d M pc (L, .ref 2000000 :: S, σ) Q := by
  refine Ev.rd (fun p e R s m args below meth c D ad ac A H locs cells slots ls Z hF hG hX hW kw => ?_) kk
  rw [hx] at hX
  obtain ⟨x1, x2, x3⟩ := hX
  have e2 : a_v ad (.ref 2000000) = .ref (ad 2000000) := by simp only [a_v, a_rv]; rw [if_neg (by omega)]
  simp only [List.map_cons, e2]
  exact va_slen hF.1 hF.2.1 x1 x2 x3 hW.2.2.2.2.2.1 hd kw
theorem ev_scr {n : Nat} {xs : Nat → Int32} {i : Int32} (hx : M.2.2.2.2 = some (n, xs)) (hi : vp_in i n) (hd : decode M.2.1 pc = .ok (.iaload, 1)) (kk : Ev l d M (pc + 1) (L, .int (xs i.toNatClampNeg) :: S, σ) Q) : Ev l d M pc (L, .int i :: .ref 2000000 :: S, σ) Q := by
  refine Ev.rd (fun p e R s m args below meth c D ad ac A H locs cells slots ls Z hF hG hX hW kw => ?_) kk
  rw [hx] at hX
  obtain ⟨x1, x2, x3⟩ := hX
  have e2 : a_v ad (.ref 2000000) = .ref (ad 2000000) := by simp only [a_v, a_rv]; rw [if_neg (by omega)]
  simp only [List.map_cons, e2]
  exact va_sld hF.1 hF.2.1 x1 x2 x3 hW.2.2.2.2.2.1 hi hd kw
/-- System.arraycopy of ints -/
theorem ev_copy {n0 n1 l0 l1 idx : Nat} {sp dp n : Int32} (hw : Cond.methodLink M.1.cls idx arraycopyName ∈ a_tbl) (ha0 : σ.1[n0]? = some (.inr (0, l0))) (ha1 : σ.1[n1]? = some (.inr (0, l1))) (h1 : ¬ sp < 0) (h2 : ¬ dp < 0) (h3 : ¬ n < 0) (h4 : sp.toNatClampNeg + n.toNatClampNeg ≤ l0) (h5 : dp.toNatClampNeg + n.toNatClampNeg ≤ l1) (hrs : (S.map fun v => v.category).sum ≤ 8) (hd0 : 0 < d) (hd : decode M.2.1 pc = .ok (.invokestatic idx, 3))
    (kk : Ev l d M (pc + 3) (L, S, (σ.1, upF (aMi σ) n1 (va_cpy (aMi σ n0) (aMi σ n1) sp.toNatClampNeg dp.toNatClampNeg n.toNatClampNeg), σ.2.2)) Q) : Ev l d M pc (L, .int n :: .int dp :: .ref n1 :: .int sp :: .ref n0 :: S, σ) Q := by
  refine Ev.wr (σ' := (σ.1, upF (aMi σ) n1 (va_cpy (aMi σ n0) (aMi σ n1) sp.toNatClampNeg dp.toNatClampNeg n.toNatClampNeg), σ.2.2)) rfl rfl (fun h => h) (fun p e R s m args below meth c D ad ac A H locs cells slots ls Z hF hG hW hR1 hR2 hls kw => ?_) kk
  obtain ⟨j0, hj0, hjl0, hg0, hv0⟩ := a_nm hW ha0 (by simp)
  obtain ⟨j1, hj1, hjl1, hg1, hv1⟩ := a_nm hW ha1 (by simp)
  have hts := hF.2.2.2.2.2.2.2
  have hset : (a_ws ad ac σ).set j1 (ad n1, .inl (ac n1, l1, .inl (va_cpy (aMi σ n0) (aMi σ n1) sp.toNatClampNeg dp.toNatClampNeg n.toNatClampNeg))) = a_ws ad ac (σ.1, upF (aMi σ) n1 (va_cpy (aMi σ n0) (aMi σ n1) sp.toNatClampNeg dp.toNatClampNeg n.toNatClampNeg), σ.2.2) := by
    rw [hj1]
    rw [hj1] at ha1
    refine a_ws_set rfl (fun q hq => a_cell_F hq) ?_
    unfold a_cell
    simp only [ha1]
    simp [a_cellOf, a_arr, upF, aMi]
  have hK : va_K D vwCl [(ac n0, .int), (ac n1, .int)] s := va_K.app (t1 := [(ac n0, .int)]) (t2 := [(ac n1, .int)]) (a_nmK hW ha0 (by decide)) (a_nmK hW ha1 (by decide))
  simp only [List.map_cons, hv0, hv1]
  have hsum : ((S.map (a_v ad)).map fun v => v.category).sum = (S.map fun v => v.category).sum := by
    rw [List.map_map]
    congr 1
    apply List.map_congr_left
    intro v _
    exact a_v_cat ad v
  refine va_copyi (q0 := j0) (q1 := j1) (t0 := 0) (t1 := 1) (ty := .int) hF.1 hF.2.1 (by rw [hF.2.2.1, hls]) hF.2.2.2.1 (hts _ hw) (hts _ (by decide +kernel)) (hts _ (by decide +kernel)) (hts _ (by decide +kernel)) hK hW.2.2.1 hW.2.2.2.1 hW.2.2.2.2.2.1 hg0 hg1 rfl rfl rfl h1 h2 h3 h4 h5 (fun _ _ => rfl) (by omega) ?_ hd ?_
  · rw [hsum]
    have : nativeFrameWords "java/lang/System" "arraycopy" 5 + 11 ≤ 56 := by decide +kernel
    omega
  · rw [hset]
    exact kw
theorem ev_objInit {idx n : Nat} (hw : Cond.methodLink M.1.cls idx Lib.objectInit ∈ a_tbl) (hn : n ≠ 1500000) (hd0 : 0 < d) (hrs : (S.map fun v => v.category).sum ≤ 8) (hd : decode M.2.1 pc = .ok (.invokespecial idx, 3)) (kk : Ev l d M (pc + 3) (L, S, σ) Q) : Ev l d M pc (L, .ref n :: S, σ) Q := by
  refine Ev.wr (σ' := σ) rfl rfl (fun h => h) (fun p e R s m args below meth c D ad ac A H locs cells slots ls Z hF hG hW h1 h2 hls kw => ?_) kk
  have e2 : a_v ad (.ref n) = .ref (ad n) := by simp only [a_v, a_rv]; rw [if_neg hn]
  simp only [List.map_cons, e2]
  have hts := hF.2.2.2.2.2.2.2
  have hsum : ((S.map (a_v ad)).map fun v => v.category).sum = (S.map fun v => v.category).sum := by
    rw [List.map_map]
    congr 1
    apply List.map_congr_left
    intro v _
    exact a_v_cat ad v
  exact W.objInit hF.1 hF.2.1 hF.2.2.2.1 (hts _ hw) (hts _ (by decide +kernel)) (hts _ (by decide +kernel)) rfl (by rw [hF.2.2.1]; exact hls) rfl hd (by omega) (by have := lv_room (m := m) (pc := pc) (ls := ls) (rest := Value.ref (ad n) :: S.map (a_v ad)) (st := S.map (a_v ad)) (by rw [hsum]; exact hrs); omega) (kw H locs hW.2.2.1 hW.2.2.2.1 hW.2.2.2.2.2.1)
end EVS
