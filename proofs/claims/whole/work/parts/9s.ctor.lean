/-! ===== making: the state while the constructors run ===== -/
def miL : List (Nat × Nat × Int32) → TMi
  | [] => fun _ _ => 0
  | (n, k, x) :: t => up (miL t) n k x
def mrL : List (Nat × Nat × Nat) → Nat → Nat → Nat
  | [] => fun _ _ => 0
  | (n, k, y) :: t => upR (mrL t) n k y
def C0 : TMl := fun _ _ => 0
def CX (k : Nat) (li : List (Nat × Nat × Int32)) (lr : List (Nat × Nat × Nat)) (bc bs : Nat) : ASt := (SH.take k, miL li, C0, mrL lr, bc, bs)
theorem SH_len : SH.length = 137 := by decide +kernel
theorem tk_len {k : Nat} (h : k ≤ 137) : (SH.take k).length = k := by rw [List.length_take, SH_len]; omega
theorem tk_get {k n : Nat} {x : ASh} (h : n < k) (hs : SH[n]? = some x) : (SH.take k)[n]? = some x := by rw [List.getElem?_take_of_lt h]; exact hs
theorem miL_z {k : Nat} : ∀ {li : List (Nat × Nat × Int32)}, li.all (fun e => decide (e.1 ≠ k)) = true → miL li k = fun _ => 0
  | [], _ => rfl
  | (n, j, x) :: t, h => by
    rw [List.all_cons, Bool.and_eq_true] at h
    have h1 : n ≠ k := of_decide_eq_true h.1
    show up (miL t) n j x k = _
    rw [up_ne _ _ _ (Ne.symm h1)]
    exact miL_z h.2
theorem mrL_z {k : Nat} : ∀ {lr : List (Nat × Nat × Nat)}, lr.all (fun e => decide (e.1 ≠ k)) = true → mrL lr k = fun _ => 0
  | [], _ => rfl
  | (n, j, x) :: t, h => by
    rw [List.all_cons, Bool.and_eq_true] at h
    have h1 : n ≠ k := of_decide_eq_true h.1
    show upR (mrL t) n j x k = _
    have : upR (mrL t) n j x k = mrL t k := by unfold upR; simp [Ne.symm h1]
    rw [this]
    exact mrL_z h.2
theorem miL_g {k : Nat} : ∀ {li : List (Nat × Nat × Int32)}, li.all (fun e => decide (e.1 < k)) = true → ∀ {a : Nat}, k ≤ a → miL li a = fun _ => 0
  | [], _, _, _ => rfl
  | (n, j, x) :: t, h, a, ha => by
    rw [List.all_cons, Bool.and_eq_true] at h
    have h1 : n < k := of_decide_eq_true h.1
    show up (miL t) n j x a = _
    rw [up_ne _ _ _ (by omega)]
    exact miL_g h.2 ha
theorem mrL_g {k : Nat} : ∀ {lr : List (Nat × Nat × Nat)}, lr.all (fun e => decide (e.1 < k)) = true → ∀ {a : Nat}, k ≤ a → mrL lr a = fun _ => 0
  | [], _, _, _ => rfl
  | (n, j, x) :: t, h, a, ha => by
    rw [List.all_cons, Bool.and_eq_true] at h
    have h1 : n < k := of_decide_eq_true h.1
    show upR (mrL t) n j x a = _
    have : upR (mrL t) n j x a = mrL t a := by unfold upR; rw [if_neg (by omega)]
    rw [this]
    exact mrL_g h.2 ha
theorem al_eq {k n bc bs : Nat} {li : List (Nat × Nat × Int32)} {lr : List (Nat × Nat × Nat)} {x : ASh} (hk : k < 137) (hs : SH[k]? = some x) (z1 : li.all (fun e => decide (e.1 ≠ k)) = true) (z2 : lr.all (fun e => decide (e.1 ≠ k)) = true) : a_al (CX k li lr (bc + 1) (bs + n)) x n = CX (k + 1) li lr bc bs := by
  have e1 : SH.take k ++ [x] = SH.take (k + 1) := by rw [List.take_add_one, hs]; rfl
  have e2 : upF (miL li) k (fun _ => 0) = miL li := by
    funext a
    unfold upF
    by_cases c : a = k
    · rw [c, miL_z z1]; simp
    · simp [c]
  have e3 : zL C0 k = C0 := by funext a j; unfold zL C0; by_cases c : a = k <;> simp [c]
  have e4 : zR (mrL lr) k = mrL lr := by
    funext a
    unfold zR
    by_cases c : a = k
    · rw [c, mrL_z z2]; simp
    · simp [c]
  show (SH.take k ++ [x], upF (miL li) (SH.take k).length (fun _ => 0), zL C0 (SH.take k).length, zR (mrL lr) (SH.take k).length, bc + 1 - 1, bs + n - n) = (SH.take (k + 1), miL li, C0, mrL lr, bc, bs)
  rw [tk_len (by omega), e1, e2, e3, e4, Nat.add_sub_cancel, Nat.add_sub_cancel]
section CTOR
variable {l : Launch} {d : Nat} {M Mj : AMt} {pc : Nat} {L S : List Value} {Q : Option Value → ASt → Prop} {k bc bs : Nat} {li : List (Nat × Nat × Int32)} {lr : List (Nat × Nat × Nat)}
theorem x_new {ci idx N : Nat} {C : String} {T : u_T} (hc : vwCl[ci]? = some (C, T, N)) (hw : Cond.classLink M.1.cls idx C ∈ a_tbl) (hi : Cond.instantiable C N ∈ a_tbl) (hin : Cond.initialized C ∈ a_tbl) (hk : k < 137) (hs : SH[k]? = some (.inl ci)) (h0 : 0 < k) (z1 : li.all (fun e => decide (e.1 ≠ k)) = true) (z2 : lr.all (fun e => decide (e.1 ≠ k)) = true) (hok : (L ++ S).all (a_okv k (k + 1)) = true) (hd : decode M.2.1 pc = .ok (.new idx, 3))
    (kk : Ev l d M (pc + 3) (L, .ref k :: S, CX (k + 1) li lr bc bs) Q) : Ev l d M pc (L, S, CX k li lr (bc + 1) (bs + N)) Q := by
  have e : (CX k li lr (bc + 1) (bs + N)).1.length = k := tk_len (by omega)
  refine ev_new hc hw hi hin (by rw [e]; omega) (by rw [e]; exact h0) (Nat.le_add_left _ _) (Nat.le_add_left _ _) (by rw [e]; exact hok) hd ?_
  rw [e, al_eq hk hs z1 z2]
  exact kk
theorem x_newa {atype : ArrayType} {kd : Nat} {n : Int32} {N : Nat} (hkd : kd ≤ 3) (hty : newarray.typeOf atype = a_kt kd) (hw : Cond.arrayClass (newarray.typeOf atype) ∈ a_tbl) (hn : ¬ n < 0) (hN : n.toNatClampNeg = N) (hN2 : N ≤ 20000) (hk : k < 137) (hs : SH[k]? = some (.inr (kd, N))) (h0 : 0 < k) (z1 : li.all (fun e => decide (e.1 ≠ k)) = true) (z2 : lr.all (fun e => decide (e.1 ≠ k)) = true) (hok : (L ++ S).all (a_okv k (k + 1)) = true) (hd : decode M.2.1 pc = .ok (.newarray atype, 2))
    (kk : Ev l d M (pc + 2) (L, .ref k :: S, CX (k + 1) li lr bc bs) Q) : Ev l d M pc (L, .int n :: S, CX k li lr (bc + 1) (bs + N)) Q := by
  have e : (CX k li lr (bc + 1) (bs + N)).1.length = k := tk_len (by omega)
  refine ev_newa hkd hty hw hn hN hN2 (by rw [e]; omega) (by rw [e]; exact h0) (Nat.le_add_left _ _) (Nat.le_add_left _ _) (by rw [e]; exact hok) hd ?_
  rw [e, al_eq hk hs z1 z2]
  exact kk
theorem x_newq {idx kd : Nat} {C : String} {n : Int32} {N : Nat} (hkd : kd = 4 ∧ C = "BeckChoice$Scene" ∨ kd = 5 ∧ C = "BeckChoice$Tray") (hw : Cond.classLink M.1.cls idx C ∈ a_tbl) (hn : ¬ n < 0) (hN : n.toNatClampNeg = N) (hN2 : N ≤ 20000) (hk : k < 137) (hs : SH[k]? = some (.inr (kd, N))) (h0 : 0 < k) (z1 : li.all (fun e => decide (e.1 ≠ k)) = true) (z2 : lr.all (fun e => decide (e.1 ≠ k)) = true) (hok : (L ++ S).all (a_okv k (k + 1)) = true) (hd : decode M.2.1 pc = .ok (.anewarray idx, 3))
    (kk : Ev l d M (pc + 3) (L, .ref k :: S, CX (k + 1) li lr bc bs) Q) : Ev l d M pc (L, .int n :: S, CX k li lr (bc + 1) (bs + N)) Q := by
  have e : (CX k li lr (bc + 1) (bs + N)).1.length = k := tk_len (by omega)
  refine ev_newq hkd hw hn hN hN2 (by rw [e]; omega) (by rw [e]; exact h0) (Nat.le_add_left _ _) (Nat.le_add_left _ _) (by rw [e]; exact hok) hd ?_
  rw [e, al_eq hk hs z1 z2]
  exact kk
theorem x_putI {n ci f idx : Nat} {x : Int32} (hf : a_FL M.1.cls idx ci f) (hr : a_rf ci f = false) (hfin : ∀ C T N, vwCl[ci]? = some (C, T, N) → (T f).2.2.2 = false ∨ (M.1.name = "<init>" ∧ (T f).1 = M.1.cls)) (hnk : n < k) (ho : SH[n]? = some (.inl ci)) (hd : decode M.2.1 pc = .ok (.putfield idx, 3)) (kk : Ev l d M (pc + 3) (L, S, CX k ((n, f, x) :: li) lr bc bs) Q) : Ev l d M pc (L, .int x :: .ref n :: S, CX k li lr bc bs) Q := ev_putI hf hr hfin (tk_get hnk ho) hd kk
theorem x_putR {n ci f idx y : Nat} (hf : a_FL M.1.cls idx ci f) (hr : a_rf ci f = true) (hfin : ∀ C T N, vwCl[ci]? = some (C, T, N) → (T f).2.2.2 = false ∨ (M.1.name = "<init>" ∧ (T f).1 = M.1.cls)) (hk : k ≤ 137) (hnk : n < k) (ho : SH[n]? = some (.inl ci)) (hy : 0 < y ∧ y < k) (hd : decode M.2.1 pc = .ok (.putfield idx, 3)) (kk : Ev l d M (pc + 3) (L, S, CX k li ((n, f, y) :: lr) bc bs) Q) : Ev l d M pc (L, .ref y :: .ref n :: S, CX k li lr bc bs) Q := ev_putR hf hr hfin (tk_get hnk ho) ⟨hy.1, by omega⟩ (by show y < (SH.take k).length; rw [tk_len hk]; exact hy.2) hd kk
theorem x_getR {n ci f idx y : Nat} (hf : a_FL M.1.cls idx ci f) (hr : a_rf ci f = true) (hnk : n < k) (ho : SH[n]? = some (.inl ci)) (hv : mrL lr n f = y) (hy : 0 < y ∧ y < 1000) (hd : decode M.2.1 pc = .ok (.getfield idx, 3)) (kk : Ev l d M (pc + 3) (L, .ref y :: S, CX k li lr bc bs) Q) : Ev l d M pc (L, .ref n :: S, CX k li lr bc bs) Q := by
  subst hv
  exact ev_getR hf hr (tk_get hnk ho) hy hd kk
theorem x_getI {n ci f idx : Nat} {v : Int32} (hf : a_FL M.1.cls idx ci f) (hr : a_rf ci f = false) (hnk : n < k) (ho : SH[n]? = some (.inl ci)) (hv : miL li n f = v) (hd : decode M.2.1 pc = .ok (.getfield idx, 3)) (kk : Ev l d M (pc + 3) (L, .int v :: S, CX k li lr bc bs) Q) : Ev l d M pc (L, .ref n :: S, CX k li lr bc bs) Q := by
  subst hv
  exact ev_getI hf hr (tk_get hnk ho) hd kk
theorem x_iast {n len j : Nat} {i x : Int32} (hnk : n < k) (ho : SH[n]? = some (.inr (0, len))) (hi : vp_in i len) (hj : i.toNatClampNeg = j) (hd : decode M.2.1 pc = .ok (.iastore, 1)) (kk : Ev l d M (pc + 1) (L, S, CX k ((n, j, x) :: li) lr bc bs) Q) : Ev l d M pc (L, .int x :: .int i :: .ref n :: S, CX k li lr bc bs) Q := by
  subst hj
  exact ev_iast ⟨len, tk_get hnk ho, hi⟩ hd kk
theorem x_aast {n y kd ci len j : Nat} {i : Int32} (hkd : kd = 4 ∧ ci = 5 ∨ kd = 5 ∧ ci = 9) (hnk : n < k) (ho : SH[n]? = some (.inr (kd, len))) (hi : vp_in i len) (hj : i.toNatClampNeg = j) (hyk : y < k) (hy : SH[y]? = some (.inl ci)) (hd : decode M.2.1 pc = .ok (.aastore, 1)) (kk : Ev l d M (pc + 1) (L, S, CX k li ((n, j, y) :: lr) bc bs) Q) : Ev l d M pc (L, .ref y :: .int i :: .ref n :: S, CX k li lr bc bs) Q := by
  subst hj
  exact ev_aast hkd ⟨len, tk_get hnk ho, hi⟩ (tk_get hyk hy) hd kk
theorem x_callI {n idx x : Nat} {As : List Value} {b1 s1 k' : Nat} {li' : List (Nat × Nat × Int32)} {lr' : List (Nat × Nat × Nat)} (hcal : a_Cal Mj n) (hret : Mj.2.2.2.1 = none) (hlk : Cond.methodLink M.1.cls idx Mj.1 ∈ a_tbl) (hin : Cond.instanceMethod Mj.1 ∈ a_tbl) (hnm : Mj.1.name = "<init>") (hx9 : x ≠ 1500000) (hn : As.length = n) (hvs : (Value.ref x :: As).all a_okArg = true) (hvl : (a_flat (Value.ref x :: As)).length ≤ Mj.2.2.1) (hrs : (S.map fun v => v.category).sum ≤ 8) (hk : k ≤ 137) (hok : (L ++ S).all (a_okv k 1000) = true) (hd : decode M.2.1 pc = .ok (.invokespecial idx, 3))
    (hev : Ev l d Mj 0 (a_ent Mj.2.2.1 (Value.ref x :: As), [], CX k li lr b1 s1) (fun v σ => v = none ∧ σ = CX k' li' lr' 0 0)) (kk : Ev l (d + 1) M (pc + 3) (L, S, CX k' li' lr' bc bs) Q) : Ev l (d + 1) M pc (L, As.reverse ++ .ref x :: S, CX k li lr (bc + b1) (bs + s1)) Q := by
  have e : (CX k li lr (bc + b1) (bs + s1)).1.length = k := tk_len hk
  refine Ev.callI (b1 := b1) (s1 := s1) hcal hret hlk hin hnm hx9 hn hvs hvl hrs (Nat.le_add_left _ _) (Nat.le_add_left _ _) (Or.inr (by rw [e]; exact hok)) hd hev (fun v σ' hq => ?_)
  obtain ⟨rfl, rfl⟩ := hq
  show Ev l (d + 1) M (pc + 3) (L, S, (SH.take k', miL li', C0, mrL lr', bc + b1 - b1, bs + s1 - s1)) Q
  rw [Nat.add_sub_cancel, Nat.add_sub_cancel]
  exact kk
theorem x_callIN {n idx x : Nat} {host : String} {As : List Value} {b1 s1 k' : Nat} {li' : List (Nat × Nat × Int32)} {lr' : List (Nat × Nat × Nat)} (hcal : a_Cal Mj n) (hret : Mj.2.2.2.1 = none) (hlk : Cond.methodLinkNest M.1.cls idx Mj.1 host ∈ a_nst) (hin : Cond.instanceMethod Mj.1 ∈ a_tbl) (hnm : Mj.1.name = "<init>") (hx9 : x ≠ 1500000) (hn : As.length = n) (hvs : (Value.ref x :: As).all a_okArg = true) (hvl : (a_flat (Value.ref x :: As)).length ≤ Mj.2.2.1) (hrs : (S.map fun v => v.category).sum ≤ 8) (hk : k ≤ 137) (hok : (L ++ S).all (a_okv k 1000) = true) (hd : decode M.2.1 pc = .ok (.invokespecial idx, 3))
    (hev : Ev l d Mj 0 (a_ent Mj.2.2.1 (Value.ref x :: As), [], CX k li lr b1 s1) (fun v σ => v = none ∧ σ = CX k' li' lr' 0 0)) (kk : Ev l (d + 1) M (pc + 3) (L, S, CX k' li' lr' bc bs) Q) : Ev l (d + 1) M pc (L, As.reverse ++ .ref x :: S, CX k li lr (bc + b1) (bs + s1)) Q := by
  have e : (CX k li lr (bc + b1) (bs + s1)).1.length = k := tk_len hk
  refine Ev.callIN (b1 := b1) (s1 := s1) hcal hret hlk hin hnm hx9 hn hvs hvl hrs (Nat.le_add_left _ _) (Nat.le_add_left _ _) (Or.inr (by rw [e]; exact hok)) hd hev (fun v σ' hq => ?_)
  obtain ⟨rfl, rfl⟩ := hq
  show Ev l (d + 1) M (pc + 3) (L, S, (SH.take k', miL li', C0, mrL lr', bc + b1 - b1, bs + s1 - s1)) Q
  rw [Nat.add_sub_cancel, Nat.add_sub_cancel]
  exact kk
theorem x_mna {idx : Nat} (hw : Cond.classLink M.1.cls idx "[[I" ∈ a_tbl) (z1 : li.all (fun e => decide (e.1 < 43)) = true) (z2 : lr.all (fun e => decide (e.1 < 43)) = true) (hok : (L ++ S).all (a_okv 43 54) = true) (hd : decode M.2.1 pc = .ok (.multianewarray idx 2, 4))
    (kk : Ev l d M (pc + 4) (L, .ref 43 :: S, CX 54 li ((43, 9, 53) :: (43, 8, 52) :: (43, 7, 51) :: (43, 6, 50) :: (43, 5, 49) :: (43, 4, 48) :: (43, 3, 47) :: (43, 2, 46) :: (43, 1, 45) :: (43, 0, 44) :: lr) bc bs) Q) : Ev l d M pc (L, .int 40 :: .int 10 :: S, CX 43 li lr (bc + 11) (bs + 410)) Q := by
  have e : (CX 43 li lr (bc + 11) (bs + 410)).1.length = 43 := tk_len (by decide)
  refine ev_mna (N := 10) (K := 40) (n0 := 4) (l0 := 6) hw (tk_get (by decide) sh4) (by decide) (by decide) (by decide) (by decide) (by decide) (by decide) (by rw [e]; decide) (by rw [e]; decide) (by show 1 + 10 ≤ bc + 11; omega) (by show 10 + 10 * 40 ≤ bs + 410; omega) (by rw [e]; exact hok) hd ?_
  have e1 : SH.take 43 ++ (.inr (6, 10) :: List.replicate 10 (.inr (0, 40))) = SH.take 54 := by decide +kernel
  have e2 : (fun a => if 43 ≤ a then (fun _ => 0) else miL li a) = miL li := by
    funext a
    by_cases c : 43 ≤ a
    · rw [if_pos c, miL_g z1 c]
    · rw [if_neg c]
  have e3 : (fun a => if 43 ≤ a then (fun _ => 0) else C0 a) = C0 := by
    funext a
    by_cases c : 43 ≤ a
    · rw [if_pos c]; rfl
    · rw [if_neg c]
  have e4 : (fun a => if a = 43 then (fun i => if i < 10 then 43 + 1 + i else 0) else if 43 ≤ a then (fun _ => 0) else mrL lr a) = mrL ((43, 9, 53) :: (43, 8, 52) :: (43, 7, 51) :: (43, 6, 50) :: (43, 5, 49) :: (43, 4, 48) :: (43, 3, 47) :: (43, 2, 46) :: (43, 1, 45) :: (43, 0, 44) :: lr) := by
    funext a i
    simp only [mrL, upR]
    by_cases c : a = 43
    · subst c
      simp only [if_true]
      rw [mrL_g z2 (Nat.le_refl 43)]
      by_cases c10 : i < 10
      · rw [if_pos c10]
        match i, c10 with
        | 0, _ => rfl
        | 1, _ => rfl
        | 2, _ => rfl
        | 3, _ => rfl
        | 4, _ => rfl
        | 5, _ => rfl
        | 6, _ => rfl
        | 7, _ => rfl
        | 8, _ => rfl
        | 9, _ => rfl
      · rw [if_neg c10]
        simp only [va_up, if_neg (show ¬ i = 9 by omega), if_neg (show ¬ i = 8 by omega), if_neg (show ¬ i = 7 by omega), if_neg (show ¬ i = 6 by omega), if_neg (show ¬ i = 5 by omega), if_neg (show ¬ i = 4 by omega), if_neg (show ¬ i = 3 by omega), if_neg (show ¬ i = 2 by omega), if_neg (show ¬ i = 1 by omega), if_neg (show ¬ i = 0 by omega)]
    · simp only [c, if_false]
      by_cases c2 : 43 ≤ a
      · rw [if_pos c2, mrL_g z2 c2]
      · rw [if_neg c2]
  have ea : a_mal (CX 43 li lr (bc + 11) (bs + 410)) 10 40 = CX 54 li ((43, 9, 53) :: (43, 8, 52) :: (43, 7, 51) :: (43, 6, 50) :: (43, 5, 49) :: (43, 4, 48) :: (43, 3, 47) :: (43, 2, 46) :: (43, 1, 45) :: (43, 0, 44) :: lr) bc bs := by
    unfold a_mal
    rw [e]
    show (SH.take 43 ++ (.inr (6, 10) :: List.replicate 10 (.inr (0, 40))), (fun a => if 43 ≤ a then (fun _ => 0) else miL li a), (fun a => if 43 ≤ a then (fun _ => 0) else C0 a), (fun a => if a = 43 then (fun i => if i < 10 then 43 + 1 + i else 0) else if 43 ≤ a then (fun _ => 0) else mrL lr a), bc + 11 - (1 + 10), bs + 410 - (10 + 10 * 40)) = _
    rw [e1, e2, e3, e4, show bc + 11 - (1 + 10) = bc by omega, show bs + 410 - (10 + 10 * 40) = bs by omega]
    rfl
  rw [e, ea]
  exact kk
theorem x_alen {n kd len : Nat} {v : Int32} (hkd : kd ≠ 7) (hnk : n < k) (ho : SH[n]? = some (.inr (kd, len))) (hv : nI len = v) (hd : decode M.2.1 pc = .ok (.arraylength, 1)) (kk : Ev l d M (pc + 1) (L, .int v :: S, CX k li lr bc bs) Q) : Ev l d M pc (L, .ref n :: S, CX k li lr bc bs) Q := by
  subst hv
  exact ev_alen hkd (tk_get hnk ho) hd kk
theorem x_iastz {n len j : Nat} {i x : Int32} (hnk : n < k) (ho : SH[n]? = some (.inr (0, len))) (hi : vp_in i len) (hj : i.toNatClampNeg = j) (hv : miL li n j = x) (hd : decode M.2.1 pc = .ok (.iastore, 1)) (kk : Ev l d M (pc + 1) (L, S, CX k li lr bc bs) Q) : Ev l d M pc (L, .int x :: .int i :: .ref n :: S, CX k li lr bc bs) Q := by
  subst hj
  have e : up (miL li) n i.toNatClampNeg x = miL li := by
    funext a b
    rw [up_eq]
    by_cases c : a = n ∧ b = i.toNatClampNeg
    · rw [if_pos c, c.1, c.2, hv]
    · rw [if_neg c]
  refine ev_iast ⟨len, tk_get hnk ho, hi⟩ hd ?_
  show Ev l d M (pc + 1) (L, S, (SH.take k, up (miL li) n i.toNatClampNeg x, C0, mrL lr, bc, bs)) Q
  rw [e]
  exact kk
theorem x_copy0 {n0 n1 l0 l1 idx : Nat} {dp : Int32} (hw : Cond.methodLink M.1.cls idx arraycopyName ∈ a_tbl) (h0 : n0 < k) (h1 : n1 < k) (ha0 : SH[n0]? = some (.inr (0, l0))) (ha1 : SH[n1]? = some (.inr (0, l1))) (h2 : ¬ dp < 0) (h5 : dp.toNatClampNeg ≤ l1) (hrs : (S.map fun v => v.category).sum ≤ 8) (hd0 : 0 < d) (hd : decode M.2.1 pc = .ok (.invokestatic idx, 3)) (kk : Ev l d M (pc + 3) (L, S, CX k li lr bc bs) Q) : Ev l d M pc (L, .int 0 :: .int dp :: .ref n1 :: .int 0 :: .ref n0 :: S, CX k li lr bc bs) Q := by
  refine ev_copy hw (tk_get h0 ha0) (tk_get h1 ha1) (by decide) h2 (by decide) (by show 0 + 0 ≤ l0; omega) (by show dp.toNatClampNeg + 0 ≤ l1; omega) hrs hd0 hd ?_
  have e : upF (miL li) n1 (va_cpy (miL li n0) (miL li n1) ((0 : Int32).toNatClampNeg) dp.toNatClampNeg ((0 : Int32).toNatClampNeg)) = miL li := by
    funext a
    unfold upF
    by_cases c : a = n1
    · rw [if_pos c, c]
      funext j
      unfold va_cpy
      exact if_neg (show ¬ (dp.toNatClampNeg ≤ j ∧ j < dp.toNatClampNeg + 0) by omega)
    · rw [if_neg c]
  show Ev l d M (pc + 3) (L, S, (SH.take k, upF (miL li) n1 (va_cpy (miL li n0) (miL li n1) ((0 : Int32).toNatClampNeg) dp.toNatClampNeg ((0 : Int32).toNatClampNeg)), C0, mrL lr, bc, bs)) Q
  rw [e]
  exact kk
theorem x_callS {n idx : Nat} {As : List Value} {k' : Nat} {li' : List (Nat × Nat × Int32)} {lr' : List (Nat × Nat × Nat)} (hs : a_SS M.1.cls idx Mj n) (hn : As.length = n) (hvs : As.all a_okArg = true) (hvl : (a_flat As).length ≤ Mj.2.2.1) (hrs : (S.map fun v => v.category).sum ≤ 8) (hd : decode M.2.1 pc = .ok (.invokestatic idx, 3))
    (hev : Ev l d Mj 0 (a_ent Mj.2.2.1 As, [], CX k li lr 0 0) (fun v σ => v = none ∧ σ = CX k' li' lr' 0 0)) (kk : Ev l (d + 1) M (pc + 3) (L, S, CX k' li' lr' bc bs) Q) : Ev l (d + 1) M pc (L, As.reverse ++ S, CX k li lr bc bs) Q := by
  refine Ev.callS hs.1 hs.2.1 hs.2.2 hn hvs hvl hrs hd hev (fun v σ' hq => ?_)
  obtain ⟨rfl, rfl⟩ := hq
  exact kk
theorem x_callV {n idx ci x : Nat} {As : List Value} {k' : Nat} {li' : List (Nat × Nat × Int32)} {lr' : List (Nat × Nat × Nat)} (hs : a_SV M.1.cls idx Mj n ci) (hxk : x < k) (hx : SH[x]? = some (.inl ci)) (hn : As.length = n) (hvs : (Value.ref x :: As).all a_okArg = true) (hvl : (a_flat (Value.ref x :: As)).length ≤ Mj.2.2.1) (hrs : (S.map fun v => v.category).sum ≤ 8) (hd : decode M.2.1 pc = .ok (.invokevirtual idx, 3))
    (hev : Ev l d Mj 0 (a_ent Mj.2.2.1 (Value.ref x :: As), [], CX k li lr 0 0) (fun v σ => v = none ∧ σ = CX k' li' lr' 0 0)) (kk : Ev l (d + 1) M (pc + 3) (L, S, CX k' li' lr' bc bs) Q) : Ev l (d + 1) M pc (L, As.reverse ++ .ref x :: S, CX k li lr bc bs) Q := by
  obtain ⟨T, N, hc⟩ := hs.2.2.2.2
  refine Ev.callV (b1 := 0) (s1 := 0) hs.1 hs.2.1 hs.2.2.1 hs.2.2.2.1 hc (tk_get hxk hx) hn hvs hvl hrs (Nat.zero_le _) (Nat.zero_le _) (Or.inl rfl) hd hev (fun v σ' hq => ?_)
  obtain ⟨rfl, rfl⟩ := hq
  exact kk
end CTOR
