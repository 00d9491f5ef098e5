section EVB
variable {l : Launch} {d : Nat} {M : AMt} {pc : Nat} {L S : List Value} {σ : ASt} {Q : Option Value → ASt → Prop}
theorem ev_aast {n y kd ci : Nat} {i : Int32} (hk : kd = 4 ∧ ci = 5 ∨ kd = 5 ∧ ci = 9) (hi : inA σ n kd i) (hy : σ.1[y]? = some (.inl ci)) (hd : decode M.2.1 pc = .ok (.aastore, 1)) (kk : Ev l d M (pc + 1) (L, S, (σ.1, σ.2.1, σ.2.2.1, upR (aMr σ) n i.toNatClampNeg y, σ.2.2.2.2)) Q) : Ev l d M pc (L, .ref y :: .int i :: .ref n :: S, σ) Q := by
  have hyl : y < σ.1.length := (List.getElem?_eq_some_iff.mp hy).1
  refine Ev.wr (σ' := (σ.1, σ.2.1, σ.2.2.1, upR (aMr σ) n i.toNatClampNeg y, σ.2.2.2.2)) rfl rfl ?_ (fun p e R s m args below meth c D ad ac A H locs cells slots ls Z hF hG hW h1 h2 hls kw => ?_) kk
  · intro h a b ha
    simp only [aMr, upR]
    split
    · rename_i e
      unfold va_up
      split
      · exact hyl
      · subst e; exact h _ b ha
    · exact h a b ha
  obtain ⟨len, ho, hin⟩ := hi
  have hkd : kd ≠ 7 := by omega
  obtain ⟨j, hj, hjl, hg, hv⟩ := a_nm hW ho (by intro e; cases e; exact hkd rfl)
  obtain ⟨j2, hj2, hjl2, hg2, hv2⟩ := a_nm hW hy (by simp)
  have harr : a_arr ad σ n kd = .inr (.inr (.inr (.inr (fun i => a_rn ad (aMr σ n i))))) := by
    unfold a_arr
    rw [if_neg (by omega), if_neg (by omega)]
  have hg3 : (a_ws ad ac σ)[j]? = some (ad n, .inl (ac n, len, .inr (.inr (.inr (.inr (fun i => a_rn ad (aMr σ n i))))))) := by
    rw [hg]
    show some (ad n, Sum.inl (ac n, len, a_arr ad σ n kd)) = _
    rw [harr]
  have hset : (a_ws ad ac σ).set j (ad n, .inl (ac n, len, .inr (.inr (.inr (.inr (va_up (fun i => a_rn ad (aMr σ n i)) i.toNatClampNeg (some (ad y)))))))) = a_ws ad ac (σ.1, σ.2.1, σ.2.2.1, upR (aMr σ) n i.toNatClampNeg y, σ.2.2.2.2) := by
    subst hj
    refine a_ws_set rfl (fun q hq => a_cell_R hq) ?_
    unfold a_cell
    simp only [ho, a_cellOf]
    congr 3
    unfold a_arr
    rw [if_neg (by omega), if_neg (by omega)]
    congr 4
    funext b
    simp only [aMr, upR, if_true]
    unfold va_up
    split
    · unfold a_rn
      rw [if_neg (by omega)]
    · rfl
  simp only [List.map_cons, hv, hv2]
  have hK := a_nmK hW ho hkd
  rcases hk with ⟨rfl, rfl⟩ | ⟨rfl, rfl⟩
  · refine va_astq (r := (RX5, TX5, 8)) hF.1 hF.2.1 hK hW.2.2.1 hW.2.2.2.1 hW.2.2.2.2.2.1 j 0 j2 5 hg3 rfl hg2 rfl hin hd ?_
    rw [hset]
    exact kw
  · refine va_astq (r := (RX9, TX9, 3)) hF.1 hF.2.1 hK hW.2.2.1 hW.2.2.2.1 hW.2.2.2.2.2.1 j 0 j2 9 hg3 rfl hg2 rfl hin hd ?_
    rw [hset]
    exact kw
/-- rows of ints, and the array of them -/
def a_mal (σ : ASt) (N K : Nat) : ASt := (σ.1 ++ (.inr (6, N) :: List.replicate N (.inr (0, K))), (fun a => if σ.1.length ≤ a then (fun _ => 0) else aMi σ a), (fun a => if σ.1.length ≤ a then (fun _ => 0) else aMl σ a), (fun a => if a = σ.1.length then (fun i => if i < N then σ.1.length + 1 + i else 0) else if σ.1.length ≤ a then (fun _ => 0) else aMr σ a), aBc σ - (1 + N), aBs σ - (N + N * K))
theorem a_mal_get {σ : ASt} {N K i : Nat} (hi : i < N) : (a_mal σ N K).1[σ.1.length + 1 + i]? = some (.inr (0, K)) := by
  show (σ.1 ++ (.inr (6, N) :: List.replicate N (.inr (0, K))))[σ.1.length + 1 + i]? = _
  rw [List.getElem?_append_right (by omega), show σ.1.length + 1 + i - σ.1.length = i + 1 by omega]
  simp [hi]
theorem a_mal_get0 {σ : ASt} {N K : Nat} : (a_mal σ N K).1[σ.1.length]? = some (.inr (6, N)) := by
  show (σ.1 ++ (.inr (6, N) :: List.replicate N (.inr (0, K))))[σ.1.length]? = _
  rw [List.getElem?_append_right (Nat.le_refl _), Nat.sub_self]
  rfl
theorem ev_mna {idx n0 l0 : Nat} {n k : Int32} {N K : Nat} (hw : Cond.classLink M.1.cls idx "[[I" ∈ a_tbl) (ha0 : σ.1[n0]? = some (.inr (0, l0))) (hn : ¬ n < 0) (hk : ¬ k < 0) (hN : n.toNatClampNeg = N) (hK : k.toNatClampNeg = K) (hN2 : N ≤ 100) (hK2 : K ≤ 100) (hl : σ.1.length + 1 + N < 1000) (h0 : 0 < σ.1.length) (hb : 1 + N ≤ aBc σ) (hs : N + N * K ≤ aBs σ) (hok : (L ++ S).all (a_okv σ.1.length (σ.1.length + 1 + N)) = true) (hd : decode M.2.1 pc = .ok (.multianewarray idx 2, 4))
    (kk : Ev l d M (pc + 4) (L, .ref σ.1.length :: S, a_mal σ N K) Q) : Ev l d M pc (L, .int k :: .int n :: S, σ) Q := by
  have hlen : (a_mal σ N K).1.length = σ.1.length + 1 + N := by simp [a_mal]; omega
  rw [List.all_append, Bool.and_eq_true] at hok
  have hmr2 : (∀ n k, n < σ.1.length → aMr σ n k < σ.1.length) → ∀ m k, m < (a_mal σ N K).1.length → aMr (a_mal σ N K) m k < (a_mal σ N K).1.length := by
    intro h m k hm
    rw [hlen] at hm ⊢
    show (if m = σ.1.length then (fun i => if i < N then σ.1.length + 1 + i else 0) else if σ.1.length ≤ m then (fun _ => 0) else aMr σ m) k < _
    split
    · show (if k < N then σ.1.length + 1 + k else 0) < _
      split <;> omega
    · split
      · show 0 < _; omega
      · have := h m k (by omega)
        omega
  refine Ev.grow (σ' := a_mal σ N K) ⟨_, rfl⟩ (by rw [hlen]; show σ.1.length + 1 + N + (aBc σ - (1 + N)) ≤ _; omega) (by rw [hlen]; exact hl) hmr2 (by rw [hlen]; exact hok.1) (fun p e R s m args below meth c D ad ac A H locs cells slots ls Z hF hG hW h3 h4 kw => ?_) kk
  have hts := hF.2.2.2.2.2.2.2
  have hKn := (a_nmK hW ha0 (by decide)).2 0 _ rfl
  have hfc : s.vm.findClass (FieldType.array .int).toString = some (ac n0) := hKn.2
  have hmr := hW.2.2.2.2.2.2.2.2
  have hNK : N * K ≤ 10000 := Nat.le_trans (Nat.mul_le_mul hN2 hK2) (by decide)
  refine va_mna (X := a_ws ad ac σ) (L := []) (f := fun _ => .inr (0, [])) (ty := .int) (z := (K, .inl (fun _ => 0))) hF.1 hF.2.1 hF.2.2.2.1 (hts _ hw) hG.2.2.2.2.2.2.2 (hts _ (by decide +kernel)) hfc hW.1 (by simpa [va_pl] using hW.2.2.1) (by simpa [va_pl] using hW.2.2.2.1) hW.2.2.2.2.2.1 hW.2.2.2.2.1 hn hk hN hK (by omega) (by show K * 4 ≤ _; omega) (by omega) rfl rfl (by omega) (by omega) (fun c => arrV_new c K (.int 0)) hd (fun q r cA H1 hri hrl hKK hP hD hS => ?_)
  let ad' : Nat → Nat := fun x => if x = σ.1.length then q else if σ.1.length < x ∧ x < σ.1.length + 1 + N then r (x - σ.1.length - 1) else ad x
  let ac' : Nat → ClassId := fun x => if x = σ.1.length then cA else if σ.1.length < x ∧ x < σ.1.length + 1 + N then ac n0 else ac x
  have ad_old : ∀ x, ¬ (σ.1.length ≤ x ∧ x < σ.1.length + 1 + N) → ad' x = ad x := fun x hx => by
    show (if x = σ.1.length then q else if σ.1.length < x ∧ x < σ.1.length + 1 + N then r (x - σ.1.length - 1) else ad x) = _
    rw [if_neg (by omega), if_neg (by omega)]
  have ac_old : ∀ x, ¬ (σ.1.length ≤ x ∧ x < σ.1.length + 1 + N) → ac' x = ac x := fun x hx => by
    show (if x = σ.1.length then cA else if σ.1.length < x ∧ x < σ.1.length + 1 + N then ac n0 else ac x) = _
    rw [if_neg (by omega), if_neg (by omega)]
  have ad_q : ad' σ.1.length = q := if_pos rfl
  have ac_q : ac' σ.1.length = cA := if_pos rfl
  have ad_r : ∀ i, i < N → ad' (σ.1.length + 1 + i) = r i := fun i hi => by
    show (if _ = σ.1.length then q else if σ.1.length < σ.1.length + 1 + i ∧ σ.1.length + 1 + i < σ.1.length + 1 + N then r (σ.1.length + 1 + i - σ.1.length - 1) else ad _) = _
    rw [if_neg (by omega), if_pos (by omega), show σ.1.length + 1 + i - σ.1.length - 1 = i by omega]
  have ac_r : ∀ i, i < N → ac' (σ.1.length + 1 + i) = ac n0 := fun i hi => by
    show (if _ = σ.1.length then cA else if σ.1.length < σ.1.length + 1 + i ∧ σ.1.length + 1 + i < σ.1.length + 1 + N then ac n0 else ac _) = _
    rw [if_neg (by omega), if_pos (by omega)]
  have hws : a_ws ad' ac' (a_mal σ N K) = (a_ws ad ac σ ++ [(q, .inl (cA, N, .inr (.inr (.inr (.inr (fun i => if i < N then some (r i) else none))))))]) ++ va_pl ([] ++ (List.range N).map r) (vr_up (fun _ => .inr (0, [])) ((List.range N).map r) (.inl (ac n0, (K, .inl (fun _ => 0))))) := by
    apply List.ext_getElem?
    intro j
    have hl1 : (a_ws ad ac σ ++ [(q, (.inl (cA, N, .inr (.inr (.inr (.inr (fun i => if i < N then some (r i) else none))))) : va_E))]).length = σ.1.length := by simp [a_ws_len]; omega
    by_cases h1 : j + 1 < σ.1.length
    · rw [a_ws_get (by omega), List.getElem?_append_left (by rw [hl1]; omega), List.getElem?_append_left (by rw [a_ws_len]; omega), a_ws_get h1, ad_old _ (by omega)]
      congr 2
      have e1 : (a_mal σ N K).1[j + 1]? = σ.1[j + 1]? := by
        show (σ.1 ++ _)[j + 1]? = _
        rw [List.getElem?_append_left h1]
      have e2 : aMi (a_mal σ N K) (j + 1) = aMi σ (j + 1) := if_neg (by omega)
      have e3 : aMl (a_mal σ N K) (j + 1) = aMl σ (j + 1) := if_neg (by omega)
      have e4 : aMr (a_mal σ N K) (j + 1) = aMr σ (j + 1) := by
        show (if j + 1 = σ.1.length then _ else if σ.1.length ≤ j + 1 then _ else aMr σ (j + 1)) = _
        rw [if_neg (by omega), if_neg (by omega)]
      have e5 : ∀ k, a_rn ad' (aMr σ (j + 1) k) = a_rn ad (aMr σ (j + 1) k) := fun k => by
        have := hmr (j + 1) k h1
        unfold a_rn
        split
        · rfl
        · rw [ad_old _ (by omega)]
      unfold a_cell
      rw [e1]
      unfold a_cellOf a_fld a_arr
      simp only [e2, e3, e4, e5, ac_old (j + 1) (by omega)]
    · by_cases h2 : j + 1 = σ.1.length
      · rw [a_ws_get (by omega), List.getElem?_append_left (by rw [hl1]; omega), List.getElem?_append_right (by rw [a_ws_len]; omega), a_ws_len, show j - (σ.1.length - 1) = 0 by omega, h2, ad_q]
        simp only [List.getElem?_cons_zero]
        congr 2
        unfold a_cell
        rw [a_mal_get0]
        simp only [a_cellOf, ac_q]
        congr 3
        unfold a_arr
        rw [if_neg (by omega), if_neg (by omega)]
        congr 4
        funext i
        have e4 : aMr (a_mal σ N K) σ.1.length i = if i < N then σ.1.length + 1 + i else 0 := by
          show (if σ.1.length = σ.1.length then (fun i => if i < N then σ.1.length + 1 + i else 0) else _) i = _
          rw [if_pos rfl]
        rw [e4]
        split
        · rename_i hi
          unfold a_rn
          rw [if_neg (by omega), ad_r i hi]
        · rfl
      · by_cases h3 : j + 1 < σ.1.length + 1 + N
        · obtain ⟨i, rfl⟩ : ∃ i, j = σ.1.length + i := ⟨j - σ.1.length, by omega⟩
          have hi : i < N := by omega
          rw [a_ws_get (by omega), List.getElem?_append_right (by rw [hl1]; omega), hl1, show σ.1.length + i - σ.1.length = i by omega, show σ.1.length + i + 1 = σ.1.length + 1 + i by omega, ad_r i hi]
          unfold va_pl
          rw [List.nil_append, List.getElem?_map, List.getElem?_map, List.getElem?_range hi]
          simp only [Option.map_some]
          rw [vr_up_in (List.mem_map.mpr ⟨i, List.mem_range.mpr hi, rfl⟩)]
          congr 2
          unfold a_cell
          rw [a_mal_get hi]
          simp only [a_cellOf, ac_r i hi]
          congr 3
          unfold a_arr
          rw [if_pos (by omega)]
          congr 1
          exact if_pos (by omega)
        · rw [List.getElem?_eq_none (by rw [a_ws_len]; omega), List.getElem?_eq_none (by rw [List.length_append, hl1]; simp [va_pl]; omega)]
  have hmap : (Value.ref q :: S.map (a_v ad)) = (.ref σ.1.length :: S).map (a_v ad') := by
    rw [List.map_cons, a_map_ext (a := σ.1.length) (b := σ.1.length + 1 + N) ad_old hok.2]
    congr 1
    simp only [a_v, a_rv]
    rw [if_neg (by omega), ad_q]
  rw [hmap]
  refine kw ad' ac' H1 (cells + 1 + N) (slots + N + N * K) (fun n hn => ad_old n (by rw [hlen] at hn; exact hn)) ?_ (by rw [hws]; exact hP) (by rw [hws]; exact hD) hS ?_ ?_
  · intro x kd len hx
    by_cases h1 : x + 1 < σ.1.length
    · rw [ac_old _ (by omega)]
      refine hW.2.1 x kd len ?_
      rw [← hx]
      show _ = (σ.1 ++ _)[x + 1]?
      rw [List.getElem?_append_left h1]
    · by_cases h2 : x + 1 = σ.1.length
      · rw [h2] at hx ⊢
        rw [a_mal_get0] at hx
        cases hx
        rw [ac_q]
        exact hKK.2 0 _ rfl
      · have h3 := (List.getElem?_eq_some_iff.mp hx).1
        rw [hlen] at h3
        obtain ⟨i, rfl⟩ : ∃ i, x = σ.1.length + i := ⟨x - σ.1.length, by omega⟩
        have hi : i < N := by omega
        rw [show σ.1.length + i + 1 = σ.1.length + 1 + i by omega] at hx ⊢
        rw [a_mal_get hi] at hx
        cases hx
        rw [ac_r i hi]
        exact hKn
  · show cells + 1 + N + (aBc σ - (1 + N)) ≤ _; omega
  · show slots + N + N * K + (aBs σ - (N + N * K)) ≤ _; omega
end EVB
