section EVN
variable {l : Launch} {d : Nat} {M : AMt} {pc : Nat} {L S : List Value} {σ : ASt} {Q : Option Value → ASt → Prop}
theorem a_cell_I {ad : Nat → Nat} {ac : Nat → ClassId} {σ : ASt} {n k : Nat} {x : Int32} {j : Nat} (h : j ≠ n) : a_cell ad ac (σ.1, up (aMi σ) n k x, σ.2.2) j = a_cell ad ac σ j := by
  unfold a_cell a_cellOf a_fld a_arr
  simp only [aMi, aMr, aMl, up, if_neg h]
theorem a_cell_F {ad : Nat → Nat} {ac : Nat → ClassId} {σ : ASt} {n : Nat} {g : Nat → Int32} {j : Nat} (h : j ≠ n) : a_cell ad ac (σ.1, upF (aMi σ) n g, σ.2.2) j = a_cell ad ac σ j := by
  unfold a_cell a_cellOf a_fld a_arr
  simp only [aMi, aMr, aMl, upF, if_neg h]
theorem a_cell_L {ad : Nat → Nat} {ac : Nat → ClassId} {σ : ASt} {n k : Nat} {x : Int64} {j : Nat} (h : j ≠ n) : a_cell ad ac (σ.1, σ.2.1, upL (aMl σ) n k x, σ.2.2.2) j = a_cell ad ac σ j := by
  unfold a_cell a_cellOf a_fld a_arr
  simp only [aMi, aMr, aMl, upL, if_neg h]
theorem a_cell_R {ad : Nat → Nat} {ac : Nat → ClassId} {σ : ASt} {n k y : Nat} {j : Nat} (h : j ≠ n) : a_cell ad ac (σ.1, σ.2.1, σ.2.2.1, upR (aMr σ) n k y, σ.2.2.2.2) j = a_cell ad ac σ j := by
  unfold a_cell a_cellOf a_fld a_arr
  simp only [aMi, aMr, aMl, upR, if_neg h]
theorem a_fld_len {ad : Nat → Nat} {σ : ASt} {n ci : Nat} : (a_fld ad σ n ci).length = a_nf ci := by simp [a_fld]
theorem ev_putI {n ci k idx : Nat} {x : Int32} (hf : a_FL M.1.cls idx ci k) (hr : a_rf ci k = false) (hfin : ∀ C T N, vwCl[ci]? = some (C, T, N) → (T k).2.2.2 = false ∨ (M.1.name = "<init>" ∧ (T k).1 = M.1.cls)) (ho : σ.1[n]? = some (.inl ci)) (hd : decode M.2.1 pc = .ok (.putfield idx, 3)) (kk : Ev l d M (pc + 3) (L, S, (σ.1, up (aMi σ) n k x, σ.2.2)) Q) : Ev l d M pc (L, .int x :: .ref n :: S, σ) Q := by
  refine Ev.wr (σ' := (σ.1, up (aMi σ) n k x, σ.2.2)) rfl rfl (fun h => h) (fun p e R s m args below meth c D ad ac A H locs cells slots ls Z hF hG hW h1 h2 hls kw => ?_) kk
  obtain ⟨C, T, N, hc, hk, hlk⟩ := hf
  obtain ⟨hN, hin, hnm, ty0, hty, hrt⟩ := a_ck hc
  obtain ⟨j, hj, hjl, hg, hv⟩ := a_nm hW ho (by simp)
  subst hj
  have hts := hF.2.2.2.2.2.2.2
  have hty1 : ty0 k = .int := by
    rcases hrt k hk with h | h
    · exact h.2
    · rw [hr] at h; exact absurd h.1 (by decide)
  have hset : (a_ws ad ac σ).set j (ad (j + 1), .inr (ci, (a_fld ad σ (j + 1) ci).set k (.int x))) = a_ws ad ac (σ.1, up (aMi σ) (j + 1) k x, σ.2.2) := by
    refine a_ws_set rfl (fun i hi => a_cell_I hi) ?_
    unfold a_cell
    simp only [ho]
    show Sum.inr (ci, a_fld ad (σ.1, up (aMi σ) (j + 1) k x, σ.2.2) (j + 1) ci) = _
    rw [a_fldI hr]
  have kw2 : ∀ (H1 : Heap) (locs1 : List Loc), va_P D vwCl ((a_ws ad ac σ).set j (ad (j + 1), .inr (ci, (a_fld ad σ (j + 1) ci).set k (.int x)))) H1 → va_D A ((a_ws ad ac σ).set j (ad (j + 1), .inr (ci, (a_fld ad σ (j + 1) ci).set k (.int x)))) → va_S A s.heap H1 locs1 → W p l e R s m args below meth c H1 locs1 cells slots Z (F0 m (pc + 3) ls (S.map (a_v ad))) := by
    rw [hset]; exact kw
  simp only [List.map_cons, hv]
  rcases hfin C T N hc with h0 | ⟨h0, h0'⟩
  · exact va_put (C := C) (T := T) (N := N) (v := .int x) hF.1 hF.2.1 hts hin ty0 hty hnm hF.2.2.2.1 hW.1 hW.2.2.1 hW.2.2.2.1 hW.2.2.2.2.2.1 j hg hc k hk (hts _ hlk) (fun _ h => h) h0 (hty k hk) (by rw [hty1]; rfl) (by rw [hty1]; rfl) (by rw [a_fld_len, ← hN]; exact hk) hd kw2
  · by_cases hfi : (T k).2.2.2 = false
    · exact va_put (C := C) (T := T) (N := N) (v := .int x) hF.1 hF.2.1 hts hin ty0 hty hnm hF.2.2.2.1 hW.1 hW.2.2.1 hW.2.2.2.1 hW.2.2.2.2.2.1 j hg hc k hk (hts _ hlk) (fun _ h => h) hfi (hty k hk) (by rw [hty1]; rfl) (by rw [hty1]; rfl) (by rw [a_fld_len, ← hN]; exact hk) hd kw2
    · exact va_putF (C := C) (T := T) (N := N) (v := .int x) hF.1 hF.2.1 hts hin ty0 hty hnm hF.2.2.2.1 hW.1 hW.2.2.1 hW.2.2.2.1 hW.2.2.2.2.2.1 j hg hc k hk (hts _ hlk) (fun _ h => h) (by simpa using hfi) (hF.2.2.2.2.2.2.1 h0) h0' (hty k hk) (by rw [hty1]; rfl) (by rw [hty1]; rfl) (by rw [a_fld_len, ← hN]; exact hk) hd kw2
theorem ev_putR {n ci k idx y : Nat} (hf : a_FL M.1.cls idx ci k) (hr : a_rf ci k = true) (hfin : ∀ C T N, vwCl[ci]? = some (C, T, N) → (T k).2.2.2 = false ∨ (M.1.name = "<init>" ∧ (T k).1 = M.1.cls)) (ho : σ.1[n]? = some (.inl ci)) (hy : 0 < y ∧ y < 1000) (hyl : y < σ.1.length) (hd : decode M.2.1 pc = .ok (.putfield idx, 3)) (kk : Ev l d M (pc + 3) (L, S, (σ.1, σ.2.1, σ.2.2.1, upR (aMr σ) n k y, σ.2.2.2.2)) Q) : Ev l d M pc (L, .ref y :: .ref n :: S, σ) Q := by
  refine Ev.wr (σ' := (σ.1, σ.2.1, σ.2.2.1, upR (aMr σ) n k y, σ.2.2.2.2)) rfl rfl ?_ (fun p e R s m args below meth c D ad ac A H locs cells slots ls Z hF hG hW h1 h2 hls kw => ?_) kk
  · intro h a b ha
    simp only [aMr, upR, va_up]
    split
    · rename_i e
      unfold va_up
      split
      · exact hyl
      · subst e; exact h _ b ha
    · exact h a b ha
  obtain ⟨C, T, N, hc, hk, hlk⟩ := hf
  obtain ⟨hN, hin, hnm, ty0, hty, hrt⟩ := a_ck hc
  obtain ⟨j, hj, hjl, hg, hv⟩ := a_nm hW ho (by simp)
  subst hj
  have hts := hF.2.2.2.2.2.2.2
  have hy2 : a_v ad (.ref y) = .ref (ad y) := by simp only [a_v, a_rv]; rw [if_neg (by omega)]
  have hy3 : va_rf (a_rn ad y) = .ref (ad y) := by simp only [a_rn]; rw [if_neg (by omega)]; rfl
  have hty1 : a_isRf (ty0 k) = true := by
    rcases hrt k hk with h | h
    · rw [hr] at h; exact absurd h.1 (by decide)
    · exact h.2
  have hn1 : narrow (ty0 k) (.ref (ad y)) = .ref (ad y) := by
    revert hty1; cases ty0 k <;> simp [a_isRf, narrow]
  have hn2 : fits (ty0 k) (.ref (ad y)) = true := by
    revert hty1; cases ty0 k <;> simp [a_isRf, fits]
  have hset : (a_ws ad ac σ).set j (ad (j + 1), .inr (ci, (a_fld ad σ (j + 1) ci).set k (.ref (ad y)))) = a_ws ad ac (σ.1, σ.2.1, σ.2.2.1, upR (aMr σ) (j + 1) k y, σ.2.2.2.2) := by
    refine a_ws_set rfl (fun i hi => a_cell_R hi) ?_
    unfold a_cell
    simp only [ho]
    show Sum.inr (ci, a_fld ad (σ.1, σ.2.1, σ.2.2.1, upR (aMr σ) (j + 1) k y, σ.2.2.2.2) (j + 1) ci) = _
    rw [a_fldR hr, hy3]
  have kw2 : ∀ (H1 : Heap) (locs1 : List Loc), va_P D vwCl ((a_ws ad ac σ).set j (ad (j + 1), .inr (ci, (a_fld ad σ (j + 1) ci).set k (.ref (ad y))))) H1 → va_D A ((a_ws ad ac σ).set j (ad (j + 1), .inr (ci, (a_fld ad σ (j + 1) ci).set k (.ref (ad y))))) → va_S A s.heap H1 locs1 → W p l e R s m args below meth c H1 locs1 cells slots Z (F0 m (pc + 3) ls (S.map (a_v ad))) := by
    rw [hset]; exact kw
  simp only [List.map_cons, hv, hy2]
  rcases hfin C T N hc with h0 | ⟨h0, h0'⟩
  · exact va_put (C := C) (T := T) (N := N) (v := .ref (ad y)) hF.1 hF.2.1 hts hin ty0 hty hnm hF.2.2.2.1 hW.1 hW.2.2.1 hW.2.2.2.1 hW.2.2.2.2.2.1 j hg hc k hk (hts _ hlk) (fun _ h => h) h0 (hty k hk) hn1 hn2 (by rw [a_fld_len, ← hN]; exact hk) hd kw2
  · by_cases hfi : (T k).2.2.2 = false
    · exact va_put (C := C) (T := T) (N := N) (v := .ref (ad y)) hF.1 hF.2.1 hts hin ty0 hty hnm hF.2.2.2.1 hW.1 hW.2.2.1 hW.2.2.2.1 hW.2.2.2.2.2.1 j hg hc k hk (hts _ hlk) (fun _ h => h) hfi (hty k hk) hn1 hn2 (by rw [a_fld_len, ← hN]; exact hk) hd kw2
    · exact va_putF (C := C) (T := T) (N := N) (v := .ref (ad y)) hF.1 hF.2.1 hts hin ty0 hty hnm hF.2.2.2.1 hW.1 hW.2.2.1 hW.2.2.2.1 hW.2.2.2.2.2.1 j hg hc k hk (hts _ hlk) (fun _ h => h) (by simpa using hfi) (hF.2.2.2.2.2.2.1 h0) h0' (hty k hk) hn1 hn2 (by rw [a_fld_len, ← hN]; exact hk) hd kw2
/-- a place of an array -/
def inA (σ : ASt) (n kd : Nat) (i : Int32) : Prop := ∃ len, σ.1[n]? = some (.inr (kd, len)) ∧ vp_in i len
theorem ev_iald {n : Nat} {i : Int32} (hi : inA σ n 0 i) (hd : decode M.2.1 pc = .ok (.iaload, 1)) (kk : Ev l d M (pc + 1) (L, .int (aMi σ n i.toNatClampNeg) :: S, σ) Q) : Ev l d M pc (L, .int i :: .ref n :: S, σ) Q := by
  refine Ev.rd (fun p e R s m args below meth c D ad ac A H locs cells slots ls Z hF hG hX hW kw => ?_) kk
  obtain ⟨len, ho, hin⟩ := hi
  obtain ⟨j, hj, hjl, hg, hv⟩ := a_nm hW ho (by simp)
  simp only [List.map_cons, hv]
  exact va_iald hF.1 hF.2.1 (a_nmK hW ho (by decide)) hW.2.2.1 j 0 hg rfl hin hd kw
theorem ev_bald {n : Nat} {i : Int32} (hi : inA σ n 1 i) (hd : decode M.2.1 pc = .ok (.baload, 1)) (kk : Ev l d M (pc + 1) (L, .int (aMi σ n i.toNatClampNeg) :: S, σ) Q) : Ev l d M pc (L, .int i :: .ref n :: S, σ) Q := by
  refine Ev.rd (fun p e R s m args below meth c D ad ac A H locs cells slots ls Z hF hG hX hW kw => ?_) kk
  obtain ⟨len, ho, hin⟩ := hi
  obtain ⟨j, hj, hjl, hg, hv⟩ := a_nm hW ho (by simp)
  simp only [List.map_cons, hv]
  exact va_bald hF.1 hF.2.1 (a_nmK hW ho (by decide)) hW.2.2.1 j 0 hg rfl hin hd kw
theorem ev_zald {n : Nat} {i : Int32} (hi : inA σ n 2 i) (hd : decode M.2.1 pc = .ok (.baload, 1)) (kk : Ev l d M (pc + 1) (L, .int (aMi σ n i.toNatClampNeg) :: S, σ) Q) : Ev l d M pc (L, .int i :: .ref n :: S, σ) Q := by
  refine Ev.rd (fun p e R s m args below meth c D ad ac A H locs cells slots ls Z hF hG hX hW kw => ?_) kk
  obtain ⟨len, ho, hin⟩ := hi
  obtain ⟨j, hj, hjl, hg, hv⟩ := a_nm hW ho (by simp)
  simp only [List.map_cons, hv]
  exact va_zald hF.1 hF.2.1 (a_nmK hW ho (by decide)) hW.2.2.1 j 0 hg rfl hin hd kw
theorem ev_lald {n : Nat} {i : Int32} (hi : inA σ n 3 i) (hd : decode M.2.1 pc = .ok (.laload, 1)) (kk : Ev l d M (pc + 1) (L, .long (aMl σ n i.toNatClampNeg) :: S, σ) Q) : Ev l d M pc (L, .int i :: .ref n :: S, σ) Q := by
  refine Ev.rd (fun p e R s m args below meth c D ad ac A H locs cells slots ls Z hF hG hX hW kw => ?_) kk
  obtain ⟨len, ho, hin⟩ := hi
  obtain ⟨j, hj, hjl, hg, hv⟩ := a_nm hW ho (by simp)
  simp only [List.map_cons, hv]
  exact va_lald hF.1 hF.2.1 (a_nmK hW ho (by decide)) hW.2.2.1 j 0 hg rfl hin hd kw
theorem ev_aald {n kd : Nat} {i : Int32} (hkd : 4 ≤ kd ∧ kd ≤ 6) (hi : inA σ n kd i) (hz : 0 < aMr σ n i.toNatClampNeg ∧ aMr σ n i.toNatClampNeg < 1000) (hd : decode M.2.1 pc = .ok (.aaload, 1)) (kk : Ev l d M (pc + 1) (L, .ref (aMr σ n i.toNatClampNeg) :: S, σ) Q) : Ev l d M pc (L, .int i :: .ref n :: S, σ) Q := by
  refine Ev.rd (fun p e R s m args below meth c D ad ac A H locs cells slots ls Z hF hG hX hW kw => ?_) kk
  obtain ⟨len, ho, hin⟩ := hi
  obtain ⟨j, hj, hjl, hg, hv⟩ := a_nm hW ho (by intro e; cases e; omega)
  have hlt : i.toNatClampNeg < len := Nat.not_le.mp fun q => hin (Or.inr q)
  have hv2 : a_v ad (.ref (aMr σ n i.toNatClampNeg)) = va_rf (a_rn ad (aMr σ n i.toNatClampNeg)) := by
    simp only [a_v, a_rv, a_rn]
    rw [if_neg (by omega), if_neg (by omega)]
    rfl
  simp only [List.map_cons, hv, hv2] at kw ⊢
  have harr : a_arr ad σ n kd = .inr (.inr (.inr (.inr (fun i => a_rn ad (aMr σ n i))))) := by
    unfold a_arr
    rw [if_neg (by omega), if_neg (by omega)]
  have hg2 : (a_ws ad ac σ)[j]? = some (ad n, .inl (ac n, len, .inr (.inr (.inr (.inr (fun i => a_rn ad (aMr σ n i))))))) := by
    rw [hg]
    show some (ad n, Sum.inl (ac n, len, a_arr ad σ n kd)) = _
    rw [harr]
  have hK := a_nmK hW ho (by omega)
  have hre : (a_kt kd).isReference = true := by
    rcases (show kd = 4 ∨ kd = 5 ∨ kd = 6 by omega) with rfl | rfl | rfl <;> rfl
  exact W.aald (v := va_rf (a_rn ad (aMr σ n i.toNatClampNeg))) (ty := a_kt kd) hF.1 hF.2.1 (hW.2.2.1 j _ hg2) ((hK.2 0 _ rfl).1 len (fun j => va_rf (a_rn ad (aMr σ n j)))) hre (fun q => by cases q) (by show ¬ (i < 0 ∨ (arrV _ _ _).slots.size ≤ _); rw [arrV_size]; exact hin) (by show (arrV _ _ _).slots[_]? = _; rw [arrV_read _ _ hlt]) rfl rfl hd kw
def a_len (σ : ASt) (n : Nat) : Nat := match σ.1[n]? with
  | some (.inr (_, len)) => len
  | _ => 0
theorem ev_alen {n kd len : Nat} (hkd : kd ≠ 7) (ho : σ.1[n]? = some (.inr (kd, len))) (hd : decode M.2.1 pc = .ok (.arraylength, 1)) (kk : Ev l d M (pc + 1) (L, .int (nI len) :: S, σ) Q) : Ev l d M pc (L, .ref n :: S, σ) Q := by
  refine Ev.rd (fun p e R s m args below meth c D ad ac A H locs cells slots ls Z hF hG hX hW kw => ?_) kk
  obtain ⟨j, hj, hjl, hg, hv⟩ := a_nm hW ho (by intro e; cases e; exact hkd rfl)
  simp only [List.map_cons, hv]
  exact va_alen hF.1 hF.2.1 (a_nmK hW ho hkd) hW.2.2.1 j 0 hg rfl rfl hd kw
theorem ev_iast {n : Nat} {i x : Int32} (hi : inA σ n 0 i) (hd : decode M.2.1 pc = .ok (.iastore, 1)) (kk : Ev l d M (pc + 1) (L, S, (σ.1, up (aMi σ) n i.toNatClampNeg x, σ.2.2)) Q) : Ev l d M pc (L, .int x :: .int i :: .ref n :: S, σ) Q := by
  refine Ev.wr (σ' := (σ.1, up (aMi σ) n i.toNatClampNeg x, σ.2.2)) rfl rfl (fun h => h) (fun p e R s m args below meth c D ad ac A H locs cells slots ls Z hF hG hW h1 h2 hls kw => ?_) kk
  obtain ⟨len, ho, hin⟩ := hi
  obtain ⟨j, hj, hjl, hg, hv⟩ := a_nm hW ho (by simp)
  subst hj
  simp only [List.map_cons, hv]
  have hset : (a_ws ad ac σ).set j (ad (j + 1), .inl (ac (j + 1), len, .inl (upd (aMi σ (j + 1)) i.toNatClampNeg x))) = a_ws ad ac (σ.1, up (aMi σ) (j + 1) i.toNatClampNeg x, σ.2.2) := by
    refine a_ws_set rfl (fun q hq => a_cell_I hq) ?_
    unfold a_cell
    simp only [ho]
    simp [a_cellOf, a_arr, up, aMi]
  refine va_iast hF.1 hF.2.1 (a_nmK hW ho (by decide)) hW.2.2.1 hW.2.2.2.1 hW.2.2.2.2.2.1 j 0 hg rfl hin hd ?_
  rw [hset]
  exact kw
theorem ev_bast {n : Nat} {i x : Int32} (hi : inA σ n 1 i) (hd : decode M.2.1 pc = .ok (.bastore, 1)) (kk : Ev l d M (pc + 1) (L, S, (σ.1, up (aMi σ) n i.toNatClampNeg (vp_nar .byte x), σ.2.2)) Q) : Ev l d M pc (L, .int x :: .int i :: .ref n :: S, σ) Q := by
  refine Ev.wr (σ' := (σ.1, up (aMi σ) n i.toNatClampNeg (vp_nar .byte x), σ.2.2)) rfl rfl (fun h => h) (fun p e R s m args below meth c D ad ac A H locs cells slots ls Z hF hG hW h1 h2 hls kw => ?_) kk
  obtain ⟨len, ho, hin⟩ := hi
  obtain ⟨j, hj, hjl, hg, hv⟩ := a_nm hW ho (by simp)
  subst hj
  simp only [List.map_cons, hv]
  have hset : (a_ws ad ac σ).set j (ad (j + 1), .inl (ac (j + 1), len, .inl (upd (aMi σ (j + 1)) i.toNatClampNeg (vp_nar .byte x)))) = a_ws ad ac (σ.1, up (aMi σ) (j + 1) i.toNatClampNeg (vp_nar .byte x), σ.2.2) := by
    refine a_ws_set rfl (fun q hq => a_cell_I hq) ?_
    unfold a_cell
    simp only [ho]
    simp [a_cellOf, a_arr, up, aMi]
  refine va_bast hF.1 hF.2.1 (a_nmK hW ho (by decide)) hW.2.2.1 hW.2.2.2.1 hW.2.2.2.2.2.1 j 0 hg rfl hin hd ?_
  rw [hset]
  exact kw
theorem ev_zast {n : Nat} {i x : Int32} (hi : inA σ n 2 i) (hd : decode M.2.1 pc = .ok (.bastore, 1)) (kk : Ev l d M (pc + 1) (L, S, (σ.1, up (aMi σ) n i.toNatClampNeg (vp_nar .boolean x), σ.2.2)) Q) : Ev l d M pc (L, .int x :: .int i :: .ref n :: S, σ) Q := by
  refine Ev.wr (σ' := (σ.1, up (aMi σ) n i.toNatClampNeg (vp_nar .boolean x), σ.2.2)) rfl rfl (fun h => h) (fun p e R s m args below meth c D ad ac A H locs cells slots ls Z hF hG hW h1 h2 hls kw => ?_) kk
  obtain ⟨len, ho, hin⟩ := hi
  obtain ⟨j, hj, hjl, hg, hv⟩ := a_nm hW ho (by simp)
  subst hj
  simp only [List.map_cons, hv]
  have hset : (a_ws ad ac σ).set j (ad (j + 1), .inl (ac (j + 1), len, .inl (upd (aMi σ (j + 1)) i.toNatClampNeg (vp_nar .boolean x)))) = a_ws ad ac (σ.1, up (aMi σ) (j + 1) i.toNatClampNeg (vp_nar .boolean x), σ.2.2) := by
    refine a_ws_set rfl (fun q hq => a_cell_I hq) ?_
    unfold a_cell
    simp only [ho]
    simp [a_cellOf, a_arr, up, aMi]
  refine va_zast hF.1 hF.2.1 (a_nmK hW ho (by decide)) hW.2.2.1 hW.2.2.2.1 hW.2.2.2.2.2.1 j 0 hg rfl hin hd ?_
  rw [hset]
  exact kw
theorem ev_last {n : Nat} {i : Int32} {x : Int64} (hi : inA σ n 3 i) (hd : decode M.2.1 pc = .ok (.lastore, 1)) (kk : Ev l d M (pc + 1) (L, S, (σ.1, σ.2.1, upL (aMl σ) n i.toNatClampNeg x, σ.2.2.2)) Q) : Ev l d M pc (L, .long x :: .int i :: .ref n :: S, σ) Q := by
  refine Ev.wr (σ' := (σ.1, σ.2.1, upL (aMl σ) n i.toNatClampNeg x, σ.2.2.2)) rfl rfl (fun h => h) (fun p e R s m args below meth c D ad ac A H locs cells slots ls Z hF hG hW h1 h2 hls kw => ?_) kk
  obtain ⟨len, ho, hin⟩ := hi
  obtain ⟨j, hj, hjl, hg, hv⟩ := a_nm hW ho (by simp)
  subst hj
  simp only [List.map_cons, hv]
  have hset : (a_ws ad ac σ).set j (ad (j + 1), .inl (ac (j + 1), len, .inr (.inl (vp_updL (aMl σ (j + 1)) i.toNatClampNeg x)))) = a_ws ad ac (σ.1, σ.2.1, upL (aMl σ) (j + 1) i.toNatClampNeg x, σ.2.2.2) := by
    refine a_ws_set rfl (fun q hq => a_cell_L hq) ?_
    unfold a_cell
    simp only [ho]
    simp [a_cellOf, a_arr, upL, aMl]
  refine va_last hF.1 hF.2.1 (a_nmK hW ho (by decide)) hW.2.2.1 hW.2.2.2.1 hW.2.2.2.2.2.1 j 0 hg rfl hin hd ?_
  rw [hset]
  exact kw
end EVN
