/-! ===== more deeds of a scene of the class ===== -/
theorem psh_done {T : Nat → Nat → Int} {B r n k : Nat} {wo : Nat → Option Nat} (h : ¬ n < cnt (inn wo r) B) : psh T B r n k wo = (0, none, wo) := by
  cases k with
  | zero => rfl
  | succ k => simp only [psh]; rw [if_neg h]
theorem lst_some {p : Nat → Bool} {f : Nat → Int} {B : Nat} (h : 0 < cnt p B) : ∃ m, lst p f B = some m := by
  cases e : lst p f B with
  | some m => exact ⟨m, rfl⟩
  | none =>
    exfalso
    have hn := lst_none e
    have : ∀ n, n ≤ B → cnt p n = 0 := by
      intro n
      induction n with
      | zero => intro _; rfl
      | succ n ih => intro hh; simp only [cnt, hn n (by omega)]; simpa using ih (by omega)
    have := this B (Nat.le_refl _)
    omega
theorem isW_set {g : Nat → Int32} {B R : Nat} {wo : Nat → Option Nat} (h : isW g B R wo) (m : Nat) : isW (upd g m (-1)) B R (fun i => if i = m then none else wo i) := fun b hb => by
  by_cases e : b = m
  · subst e; rw [upd_at]; simp [oI]
  · rw [upd_ne _ _ e]
    simp only [e, if_false]
    exact h b hb
def dWs (d : Dt) (w : Nat → Option Nat) : Dt := (w, d.2)
theorem Cs.sWs {g : Nat → Int32} {d : Dt} {w : Nat → Option Nat} (h : Cs g (dWs d w)) {m : Nat} (hm : m < 6) : Cs (upd g m (-1)) (dWs d (fun i => if i = m then none else w i)) := h.sW hm none
theorem Cr.sWs {g : Nat → Int32} {d : Dt} {w : Nat → Option Nat} (h : Cr g (dWs d w)) {m : Nat} (hm : m < 6) : Cr (upd g m (-1)) (dWs d (fun i => if i = m then none else w i)) := h.sW hm none
theorem i32_le {x : Int32} {k : Nat} (hk : k < 2 ^ 31) (hx : 0 ≤ x.toInt) : (x = nI k) ↔ x.toInt.toNat = k := by
  constructor
  · intro h; rw [h, nI_toInt hk]; omega
  · intro h; rw [nI_toNat hx, h]
/-- a told deed -/
def iDeedN (a : Ln) (d : Dt) (n : Nat) : Int32 × Dt := match n / 100 with
    | 0 => iInto a d (nI (n / 10 % 10)) (nI (n % 10))
    | 1 => if n / 10 % 10 = 0 then iOut a d (nI (n % 10)) else (-11, d)
    | 2 => iGive a d (nI (n / 10 % 10)) (nI (n % 10)) 1
    | 3 => iPour a d (nI (n / 10 % 10)) (nI (n % 10))
    | _ => iWide a d (nI (n / 10 % 10)) (nI (n % 10))
def iDeed (a : Ln) (d : Dt) (v : Int64) : Int32 × Dt := if 0 ≤ v.toInt ∧ v.toInt ≤ 499 then iDeedN a d v.toInt.toNat else (-11, d)
def whyC (x : Int32) : Int32 := if -1 ≤ x then 0 else -10 - x
theorem lc_499 (v : Int64) : (lg_cmp v 499 ≤ 0) = (v.toInt ≤ 499) := by
  rw [lc_le, Int64.le_iff_toInt_le, show (499 : Int64).toInt = 499 by decide]
theorem lc_0 (v : Int64) : (lg_cmp v 0 < 0) = (v.toInt < 0) := by
  rw [lc_lt, Int64.lt_iff_toInt_lt, show (0 : Int64).toInt = 0 by decide]
theorem l32_nI {v : Int64} (h : 0 ≤ v.toInt) (h2 : v.toInt ≤ 499) : v.toInt32 = nI v.toInt.toNat := by
  apply Int32.toInt_inj.mp
  rw [nI_toInt (by omega), Int64.toInt_toInt32, Int.bmod_eq_of_le (by omega) (by omega)]
  omega
theorem rem10 : ∀ n, n < 500 → a_rem (nI n) 10 = nI (n % 10) := by decide +kernel
theorem rem1010 : ∀ n, n < 500 → a_rem (nI n / 10) 10 = nI (n / 10 % 10) := by decide +kernel
theorem div100 : ∀ n, n < 500 → nI n / 100 = nI (n / 100) := by decide +kernel
theorem lk_same {a : Ln} {d d' : Dt} (h : dF d' = dF d ∧ dG d' = dG d) : lkD a d' = lkD a d ∧ tkD a d' = tkD a d := by
  constructor
  · funext b r; unfold lkD W0; rw [h.1, h.2]
  · funext b r; unfold tkD W0; rw [h.1, h.2]
theorem iInto_fg (a : Ln) (d : Dt) (x y : Int32) : dF (iInto a d x y).2 = dF d ∧ dG (iInto a d x y).2 = dG d := by
  unfold iInto
  split
  · unfold dInto
    repeat' split
    all_goals exact ⟨rfl, rfl⟩
  · exact ⟨rfl, rfl⟩
theorem iOut_fg (a : Ln) (d : Dt) (x : Int32) : dF (iOut a d x).2 = dF d ∧ dG (iOut a d x).2 = dG d := by
  unfold iOut
  split
  · unfold dOut
    split
    all_goals exact ⟨rfl, rfl⟩
  · exact ⟨rfl, rfl⟩
theorem iWide_fg (a : Ln) (d : Dt) (x y : Int32) : dF (iWide a d x y).2 = dF d ∧ dG (iWide a d x y).2 = dG d := by
  unfold iWide
  split
  · exact ⟨rfl, rfl⟩
  · exact ⟨rfl, rfl⟩
theorem c_widen_17 {l : Launch} {h : Nat} {mi : TMi} {ml : TMl} {z : Nat} {y n : Int32} {a : Ln} {d : Dt} {Q : Int32 → TMi → TMl → Nat → Prop} (ha : okLn a) (hd : okD a d) (hl : LnC mi 18 a) (hc : Cs (mi 27) d) (hs : SL_17 mi a d)
    (hq : ∀ mi', Fr [27] mi mi' → Cs (mi' 27) (iWide a d y n).2 → Q (iWide a d y n).1 mi' ml z) : CI l (h + 2) m_Sc_widen [.ref 17, .int y, .int n] mi ml z Q := by
  have hB6 := ha.1
  have hR4 := ha.2.1
  have hw := hc.isW ha hd
  unfold iWide at hq
  refine t_Sc_widen_17 mi ml z _ _ (c_hasRiver hl.2.1 hR4 ⟨fun c => ?_, fun c => ⟨fun c3 => ?_, fun c3 => ⟨fun c4 => ?_, fun c4 => ?_⟩⟩⟩)
  · rw [bI_0, decide_eq_false_iff_not] at c
    rw [if_neg (fun q => c q.1)] at hq
    exact hq mi (Fr.refl _ _) hc
  · rw [i32_lt0] at c3
    rw [if_neg (by omega)] at hq
    exact hq mi (Fr.refl _ _) hc
  · rw [i32_lt0] at c3
    rw [i32_le6] at c4
    rw [bI_0, Bool.not_eq_false, decide_eq_true_eq] at c
    rw [if_pos ⟨c, by omega, c4⟩] at hq
    have hn := nI_toNat (x := n) (by omega)
    have hn6 : n.toInt.toNat ≤ 6 := by omega
    obtain ⟨ey, hr⟩ := inR_nI (a := a) c
    generalize y.toInt.toNat = r at ey hr hq
    generalize n.toInt.toNat = k at hn hn6 hq
    subst ey hn
    rw [addL_cl 12 r (by omega)]
    refine ⟨in_addL (a := 12) (by omega) (by decide), ?_⟩
    have hc' : Cs ((up mi 27 (12 + r) (nI k)) 27) (dWs (setR d r k) (dW d)) := by rw [up_self]; exact hc.sR (by omega) _
    have F1 := Fr_up mi 27 (12 + r) (nI k)
    generalize up mi 27 (12 + r) (nI k) = m1 at hc' F1 ⊢
    have hw1 : isW (m1 27) (nB a) (nR a) (dW d) := fun b hb => ⟨hc'.1 b (by omega), (hw b hb).2⟩
    refine c_Sc_becksIn_17 (lw := 40) rfl (by decide) (by rw [F1 18 (by decide)]; exact hl.1) hB6 ?_
    rw [isW_enc hw1 hR4 (show r < 4 by omega)]
    unfold dWide at hq
    generalize hG : psh (tkD a d) (nB a) r k 6 (dW d) = G at hq
    have key : ∀ fu i wo m (j : Nat), i + fu = 6 → Fr [27] mi m → Cs (m 27) (dWs (setR d r k) wo) → isW (m 27) (nB a) (nR a) wo → cnt (inn wo r) (nB a) ≤ fu → G.1 = (psh (tkD a d) (nB a) r k fu wo).1 + j → G.2.2 = (psh (tkD a d) (nB a) r k fu wo).2.2 →
        Ev l (h + 2) m_Sc_widen 50 ([.ref 17, .int (nI r), .int (nI k), .int (nI (enc (inn wo r) (nB a))), .int (nI j), .int (nI i), .retAddr 0], [], st m ml z) (qI Q) := by
      intro fu
      induction fu with
      | zero =>
        intro i wo m j hi F hcc hww hcn e1 e2
        have : i = 6 := by omega
        subst this
        refine t_Sc_widen_17_50 m ml z _ _ _ _ _ ⟨fun _ => ?_, fun c => absurd (by decide) c⟩
        rw [psh_done (by omega)] at e1 e2
        have := hq m F (by dsimp only; rw [e2]; exact hcc)
        dsimp only at this
        rw [e1, Nat.zero_add] at this
        exact this
      | succ fu ih =>
        intro i wo m j hi F hcc hww hcn e1 e2
        have h64 := enc_64 (inn wo r) hB6
        have hcl := cnt_le (inn wo r) (nB a)
        refine t_Sc_widen_17_50 m ml z _ _ _ _ _ ⟨fun q => absurd q (ge_no (N := 6) rfl (by decide) (by omega)), fun _ => c_bitCount h64 ?_⟩
        rw [pop_enc (inn wo r) hB6, nI_leI (by omega) (by omega)]
        refine ⟨fun c5 => ?_, fun c5 => ?_⟩
        · rw [psh_done (by omega)] at e1 e2
          have := hq m F (by dsimp only; rw [e2]; exact hcc)
          dsimp only at this
          rw [e1, Nat.zero_add] at this
          exact this
        · have hs1 : SL_17 m a d := hs.fr (F _ (by decide)) (F _ (by decide)) (F _ (by decide)) (F _ (by decide)) (F _ (by decide))
          refine c_Sc_leastLiked_17 (by rw [F 18 (by decide)]; exact hl.1) hB6 hR4 hs1 hr h64 ?_
          rw [lst_enc]
          obtain ⟨q, hq'⟩ := lst_some (p := inn wo r) (f := fun b => prO (tkD a d) b r) (B := nB a) (by omega)
          have hqB := lst_lt hq'
          rw [hq']
          refine ⟨fun c6 => absurd c6 (neg1_ne (by omega)), fun _ => ⟨in_nI (by omega) (by decide), ?_⟩⟩
          have ecl : (oI (some q)).toNatClampNeg = q := cl_nI (by omega)
          rw [ecl]
          show Ev l (h + 2) m_Sc_widen 50 ([.ref 17, .int (nI r), .int (nI k), .int (nI (enc (inn wo r) (nB a)) &&& (((1 : Int32) <<< (nI q &&& 31)) ^^^ (-1))), .int (nI j + 1), .int (nI i + 1), .retAddr 0], [], st (up m 27 q (-1)) ml z) (qI Q)
          rw [enc_clr hB6 hqB.1, inn_clr, nI_1, nI_1]
          have hcn' := cnt_clr (p := inn wo r) hqB.1 hqB.2
          rw [inn_clr] at hcn'
          simp only [psh, hq'] at e1 e2
          rw [if_pos (by omega)] at e1 e2
          refine ih (i + 1) _ _ (j + 1) (by omega) (F.step (Fr_up _ _ _ _)) ?_ ?_ (by omega) (by rw [e1]; omega) e2
          · rw [up_self]; exact hcc.sWs (by omega)
          · rw [up_self]; exact isW_set hww q
    exact key 6 0 (dW d) m1 0 (by decide) F1 hc' hw1 (by have := cnt_le (inn (dW d) r) (nB a); omega) (by rw [← hG]; rfl) (by rw [← hG])
  · rw [i32_le6] at c4
    rw [if_neg (by omega)] at hq
    exact hq mi (Fr.refl _ _) hc
theorem c_whyNot_17 {l : Launch} {h : Nat} {mi : TMi} {ml : TMl} {z : Nat} {v : Int64} {a : Ln} {d : Dt} {Q : Int32 → TMi → TMl → Nat → Prop} (ha : okLn a) (hd : okD a d) (hl : LnC mi 18 a) (hc : Cs (mi 27) d) (hs : SL_17 mi a d)
    (hq : ∀ mi', Fr [27, 15, 16, 28, 29, 30, 31, 32] mi mi' → Cs (mi' 27) (iDeed a d v).2 → SL_17 mi' a (iDeed a d v).2 → Q (whyC (iDeed a d v).1) mi' ml z) : CI l (h + 6) m_Sc_whyNot [.ref 17, .long v] mi ml z Q := by
  have fin : ∀ {y : Int32 × Dt} (m : TMi), y = iDeed a d v → Fr [27, 15, 16, 28, 29, 30, 31, 32] mi m → Cs (m 27) y.2 → SL_17 m a y.2 → (((-1) ≤ y.1 → Q 0 m ml z) ∧ (¬ (-1) ≤ y.1 → Q ((-10) - y.1) m ml z)) := by
    intro y m e F c1 c2
    subst e
    have := hq m F c1 c2
    unfold whyC at this
    refine ⟨fun c => ?_, fun c => ?_⟩
    · rw [if_pos c] at this; exact this
    · rw [if_neg c] at this; exact this
  have wk : ∀ {m : TMi}, Fr [27] mi m → Fr [27, 15, 16, 28, 29, 30, 31, 32] mi m := fun F => F.weak (by simp)
  have same : ∀ {m : TMi}, Fr [27] mi m → SL_17 m a d := fun F => hs.fr (F _ (by decide)) (F _ (by decide)) (F _ (by decide)) (F _ (by decide)) (F _ (by decide))
  have none_ : iDeed a d v = (-11, d) → Q ((-10 : Int32) - (-11)) mi ml z := fun e => (fin (y := (-11, d)) mi e.symm (Fr.refl _ _) hc hs).2 (show ¬ (-1 : Int32) ≤ -11 by decide)
  refine t_Sc_whyNot_17 mi ml z _ ⟨fun c => ?_, fun c => ⟨fun c2 => ?_, fun c2 => ?_⟩⟩
  · rw [lc_0] at c
    exact none_ (by unfold iDeed; rw [if_neg (by omega)])
  · rw [lc_0] at c
    rw [lc_499] at c2
    have hv : iDeed a d v = iDeedN a d v.toInt.toNat := if_pos ⟨by omega, c2⟩
    unfold iDeedN at hv
    rw [l32_nI (by omega) c2, rem10 _ (by omega), rem1010 _ (by omega), div100 _ (by omega)]
    have h5 : v.toInt.toNat / 100 < 5 := by omega
    have ei : ∀ k : Nat, k < 5 → (nI (v.toInt.toNat / 100) = nI k ↔ v.toInt.toNat / 100 = k) := fun k hk => nI_eq (by omega) (by omega)
    refine ⟨fun _ => ⟨fun c3 => ?_, fun c3 => ?_, fun c3 => ?_, fun c3 => ?_, fun c3 => ?_, fun d0 d1 d2 d3 d4 => ?_⟩, fun c3 => absurd (nI_pos' (by omega)) c3⟩
    · rw [(ei 0 (by decide)).mp c3] at hv
      exact c_goInto_17 ha hd hl hc hs (fun m F hc' => fin m hv.symm (wk F) hc' (by
        unfold SL_17; rw [(lk_same (a := a) (iInto_fg a d _ _)).1, (lk_same (a := a) (iInto_fg a d _ _)).2]; exact same F))
    · rw [(ei 1 (by decide)).mp c3] at hv
      have e10 : ∀ k : Nat, k < 10 → (nI k = 0 ↔ k = 0) := fun k hk => nI_eq (b := 0) (by omega) (by decide)
      rw [e10 _ (by omega)]
      refine ⟨fun c4 => none_ (hv.trans (if_neg c4)), fun c4 => ?_⟩
      rw [if_pos c4] at hv
      exact c_goOut_17 ha hd hl hc (fun m F hc' => fin m hv.symm (wk F) hc' (by
        unfold SL_17; rw [(lk_same (a := a) (iOut_fg a d _)).1, (lk_same (a := a) (iOut_fg a d _)).2]; exact same F))
    · rw [(ei 2 (by decide)).mp c3] at hv
      exact c_give_17 ha hd hl hc hs (fun m F hc' hs' => fin m hv.symm F hc' hs')
    · rw [(ei 3 (by decide)).mp c3] at hv
      exact c_pour_17 ha hd hl hc hs (fun m F hc' hs' => fin m hv.symm F hc' hs')
    · rw [(ei 4 (by decide)).mp c3] at hv
      exact c_widen_17 ha hd hl hc hs (fun m F hc' => fin m hv.symm (wk F) hc' (by
        unfold SL_17; rw [(lk_same (a := a) (iWide_fg a d _ _)).1, (lk_same (a := a) (iWide_fg a d _ _)).2]; exact same F))
    · exfalso
      rcases (show v.toInt.toNat / 100 = 0 ∨ v.toInt.toNat / 100 = 1 ∨ v.toInt.toNat / 100 = 2 ∨ v.toInt.toNat / 100 = 3 ∨ v.toInt.toNat / 100 = 4 by omega) with q | q | q | q | q
      · exact d0 ((ei 0 (by decide)).mpr q)
      · exact d1 ((ei 1 (by decide)).mpr q)
      · exact d2 ((ei 2 (by decide)).mpr q)
      · exact d3 ((ei 3 (by decide)).mpr q)
      · exact d4 ((ei 4 (by decide)).mpr q)
  · rw [lc_499] at c2
    exact none_ (by unfold iDeed; rw [if_neg (by omega)])
theorem c_widen_33 {l : Launch} {h : Nat} {mi : TMi} {ml : TMl} {z : Nat} {y n : Int32} {a : Ln} {d : Dt} {Q : Int32 → TMi → TMl → Nat → Prop} (ha : okLn a) (hd : okD a d) (hl : LnC mi 18 a) (hc : Cs (mi 34) d) (hs : SL_33 mi a d)
    (hq : ∀ mi', Fr [34] mi mi' → Cs (mi' 34) (iWide a d y n).2 → Q (iWide a d y n).1 mi' ml z) : CI l (h + 2) m_Sc_widen [.ref 33, .int y, .int n] mi ml z Q := by
  have hB6 := ha.1
  have hR4 := ha.2.1
  have hw := hc.isW ha hd
  unfold iWide at hq
  refine t_Sc_widen_33 mi ml z _ _ (c_hasRiver hl.2.1 hR4 ⟨fun c => ?_, fun c => ⟨fun c3 => ?_, fun c3 => ⟨fun c4 => ?_, fun c4 => ?_⟩⟩⟩)
  · rw [bI_0, decide_eq_false_iff_not] at c
    rw [if_neg (fun q => c q.1)] at hq
    exact hq mi (Fr.refl _ _) hc
  · rw [i32_lt0] at c3
    rw [if_neg (by omega)] at hq
    exact hq mi (Fr.refl _ _) hc
  · rw [i32_lt0] at c3
    rw [i32_le6] at c4
    rw [bI_0, Bool.not_eq_false, decide_eq_true_eq] at c
    rw [if_pos ⟨c, by omega, c4⟩] at hq
    have hn := nI_toNat (x := n) (by omega)
    have hn6 : n.toInt.toNat ≤ 6 := by omega
    obtain ⟨ey, hr⟩ := inR_nI (a := a) c
    generalize y.toInt.toNat = r at ey hr hq
    generalize n.toInt.toNat = k at hn hn6 hq
    subst ey hn
    rw [addL_cl 12 r (by omega)]
    refine ⟨in_addL (a := 12) (by omega) (by decide), ?_⟩
    have hc' : Cs ((up mi 34 (12 + r) (nI k)) 34) (dWs (setR d r k) (dW d)) := by rw [up_self]; exact hc.sR (by omega) _
    have F1 := Fr_up mi 34 (12 + r) (nI k)
    generalize up mi 34 (12 + r) (nI k) = m1 at hc' F1 ⊢
    have hw1 : isW (m1 34) (nB a) (nR a) (dW d) := fun b hb => ⟨hc'.1 b (by omega), (hw b hb).2⟩
    refine c_Sc_becksIn_33 (lw := 40) rfl (by decide) (by rw [F1 18 (by decide)]; exact hl.1) hB6 ?_
    rw [isW_enc hw1 hR4 (show r < 4 by omega)]
    unfold dWide at hq
    generalize hG : psh (tkD a d) (nB a) r k 6 (dW d) = G at hq
    have key : ∀ fu i wo m (j : Nat), i + fu = 6 → Fr [34] mi m → Cs (m 34) (dWs (setR d r k) wo) → isW (m 34) (nB a) (nR a) wo → cnt (inn wo r) (nB a) ≤ fu → G.1 = (psh (tkD a d) (nB a) r k fu wo).1 + j → G.2.2 = (psh (tkD a d) (nB a) r k fu wo).2.2 →
        Ev l (h + 2) m_Sc_widen 50 ([.ref 33, .int (nI r), .int (nI k), .int (nI (enc (inn wo r) (nB a))), .int (nI j), .int (nI i), .retAddr 0], [], st m ml z) (qI Q) := by
      intro fu
      induction fu with
      | zero =>
        intro i wo m j hi F hcc hww hcn e1 e2
        have : i = 6 := by omega
        subst this
        refine t_Sc_widen_33_50 m ml z _ _ _ _ _ ⟨fun _ => ?_, fun c => absurd (by decide) c⟩
        rw [psh_done (by omega)] at e1 e2
        have := hq m F (by dsimp only; rw [e2]; exact hcc)
        dsimp only at this
        rw [e1, Nat.zero_add] at this
        exact this
      | succ fu ih =>
        intro i wo m j hi F hcc hww hcn e1 e2
        have h64 := enc_64 (inn wo r) hB6
        have hcl := cnt_le (inn wo r) (nB a)
        refine t_Sc_widen_33_50 m ml z _ _ _ _ _ ⟨fun q => absurd q (ge_no (N := 6) rfl (by decide) (by omega)), fun _ => c_bitCount h64 ?_⟩
        rw [pop_enc (inn wo r) hB6, nI_leI (by omega) (by omega)]
        refine ⟨fun c5 => ?_, fun c5 => ?_⟩
        · rw [psh_done (by omega)] at e1 e2
          have := hq m F (by dsimp only; rw [e2]; exact hcc)
          dsimp only at this
          rw [e1, Nat.zero_add] at this
          exact this
        · have hs1 : SL_33 m a d := hs.fr (F _ (by decide)) (F _ (by decide)) (F _ (by decide)) (F _ (by decide)) (F _ (by decide))
          refine c_Sc_leastLiked_33 (by rw [F 18 (by decide)]; exact hl.1) hB6 hR4 hs1 hr h64 ?_
          rw [lst_enc]
          obtain ⟨q, hq'⟩ := lst_some (p := inn wo r) (f := fun b => prO (tkD a d) b r) (B := nB a) (by omega)
          have hqB := lst_lt hq'
          rw [hq']
          refine ⟨fun c6 => absurd c6 (neg1_ne (by omega)), fun _ => ⟨in_nI (by omega) (by decide), ?_⟩⟩
          have ecl : (oI (some q)).toNatClampNeg = q := cl_nI (by omega)
          rw [ecl]
          show Ev l (h + 2) m_Sc_widen 50 ([.ref 33, .int (nI r), .int (nI k), .int (nI (enc (inn wo r) (nB a)) &&& (((1 : Int32) <<< (nI q &&& 31)) ^^^ (-1))), .int (nI j + 1), .int (nI i + 1), .retAddr 0], [], st (up m 34 q (-1)) ml z) (qI Q)
          rw [enc_clr hB6 hqB.1, inn_clr, nI_1, nI_1]
          have hcn' := cnt_clr (p := inn wo r) hqB.1 hqB.2
          rw [inn_clr] at hcn'
          simp only [psh, hq'] at e1 e2
          rw [if_pos (by omega)] at e1 e2
          refine ih (i + 1) _ _ (j + 1) (by omega) (F.step (Fr_up _ _ _ _)) ?_ ?_ (by omega) (by rw [e1]; omega) e2
          · rw [up_self]; exact hcc.sWs (by omega)
          · rw [up_self]; exact isW_set hww q
    exact key 6 0 (dW d) m1 0 (by decide) F1 hc' hw1 (by have := cnt_le (inn (dW d) r) (nB a); omega) (by rw [← hG]; rfl) (by rw [← hG])
  · rw [i32_le6] at c4
    rw [if_neg (by omega)] at hq
    exact hq mi (Fr.refl _ _) hc
theorem c_whyNot_33 {l : Launch} {h : Nat} {mi : TMi} {ml : TMl} {z : Nat} {v : Int64} {a : Ln} {d : Dt} {Q : Int32 → TMi → TMl → Nat → Prop} (ha : okLn a) (hd : okD a d) (hl : LnC mi 18 a) (hc : Cs (mi 34) d) (hs : SL_33 mi a d)
    (hq : ∀ mi', Fr [34, 15, 16, 35, 36, 37, 38, 39] mi mi' → Cs (mi' 34) (iDeed a d v).2 → SL_33 mi' a (iDeed a d v).2 → Q (whyC (iDeed a d v).1) mi' ml z) : CI l (h + 6) m_Sc_whyNot [.ref 33, .long v] mi ml z Q := by
  have fin : ∀ {y : Int32 × Dt} (m : TMi), y = iDeed a d v → Fr [34, 15, 16, 35, 36, 37, 38, 39] mi m → Cs (m 34) y.2 → SL_33 m a y.2 → (((-1) ≤ y.1 → Q 0 m ml z) ∧ (¬ (-1) ≤ y.1 → Q ((-10) - y.1) m ml z)) := by
    intro y m e F c1 c2
    subst e
    have := hq m F c1 c2
    unfold whyC at this
    refine ⟨fun c => ?_, fun c => ?_⟩
    · rw [if_pos c] at this; exact this
    · rw [if_neg c] at this; exact this
  have wk : ∀ {m : TMi}, Fr [34] mi m → Fr [34, 15, 16, 35, 36, 37, 38, 39] mi m := fun F => F.weak (by simp)
  have same : ∀ {m : TMi}, Fr [34] mi m → SL_33 m a d := fun F => hs.fr (F _ (by decide)) (F _ (by decide)) (F _ (by decide)) (F _ (by decide)) (F _ (by decide))
  have none_ : iDeed a d v = (-11, d) → Q ((-10 : Int32) - (-11)) mi ml z := fun e => (fin (y := (-11, d)) mi e.symm (Fr.refl _ _) hc hs).2 (show ¬ (-1 : Int32) ≤ -11 by decide)
  refine t_Sc_whyNot_33 mi ml z _ ⟨fun c => ?_, fun c => ⟨fun c2 => ?_, fun c2 => ?_⟩⟩
  · rw [lc_0] at c
    exact none_ (by unfold iDeed; rw [if_neg (by omega)])
  · rw [lc_0] at c
    rw [lc_499] at c2
    have hv : iDeed a d v = iDeedN a d v.toInt.toNat := if_pos ⟨by omega, c2⟩
    unfold iDeedN at hv
    rw [l32_nI (by omega) c2, rem10 _ (by omega), rem1010 _ (by omega), div100 _ (by omega)]
    have h5 : v.toInt.toNat / 100 < 5 := by omega
    have ei : ∀ k : Nat, k < 5 → (nI (v.toInt.toNat / 100) = nI k ↔ v.toInt.toNat / 100 = k) := fun k hk => nI_eq (by omega) (by omega)
    refine ⟨fun _ => ⟨fun c3 => ?_, fun c3 => ?_, fun c3 => ?_, fun c3 => ?_, fun c3 => ?_, fun d0 d1 d2 d3 d4 => ?_⟩, fun c3 => absurd (nI_pos' (by omega)) c3⟩
    · rw [(ei 0 (by decide)).mp c3] at hv
      exact c_goInto_33 ha hd hl hc hs (fun m F hc' => fin m hv.symm (wk F) hc' (by
        unfold SL_33; rw [(lk_same (a := a) (iInto_fg a d _ _)).1, (lk_same (a := a) (iInto_fg a d _ _)).2]; exact same F))
    · rw [(ei 1 (by decide)).mp c3] at hv
      have e10 : ∀ k : Nat, k < 10 → (nI k = 0 ↔ k = 0) := fun k hk => nI_eq (b := 0) (by omega) (by decide)
      rw [e10 _ (by omega)]
      refine ⟨fun c4 => none_ (hv.trans (if_neg c4)), fun c4 => ?_⟩
      rw [if_pos c4] at hv
      exact c_goOut_33 ha hd hl hc (fun m F hc' => fin m hv.symm (wk F) hc' (by
        unfold SL_33; rw [(lk_same (a := a) (iOut_fg a d _)).1, (lk_same (a := a) (iOut_fg a d _)).2]; exact same F))
    · rw [(ei 2 (by decide)).mp c3] at hv
      exact c_give_33 ha hd hl hc hs (fun m F hc' hs' => fin m hv.symm F hc' hs')
    · rw [(ei 3 (by decide)).mp c3] at hv
      exact c_pour_33 ha hd hl hc hs (fun m F hc' hs' => fin m hv.symm F hc' hs')
    · rw [(ei 4 (by decide)).mp c3] at hv
      exact c_widen_33 ha hd hl hc hs (fun m F hc' => fin m hv.symm (wk F) hc' (by
        unfold SL_33; rw [(lk_same (a := a) (iWide_fg a d _ _)).1, (lk_same (a := a) (iWide_fg a d _ _)).2]; exact same F))
    · exfalso
      rcases (show v.toInt.toNat / 100 = 0 ∨ v.toInt.toNat / 100 = 1 ∨ v.toInt.toNat / 100 = 2 ∨ v.toInt.toNat / 100 = 3 ∨ v.toInt.toNat / 100 = 4 by omega) with q | q | q | q | q
      · exact d0 ((ei 0 (by decide)).mpr q)
      · exact d1 ((ei 1 (by decide)).mpr q)
      · exact d2 ((ei 2 (by decide)).mpr q)
      · exact d3 ((ei 3 (by decide)).mpr q)
      · exact d4 ((ei 4 (by decide)).mpr q)
  · rw [lc_499] at c2
    exact none_ (by unfold iDeed; rw [if_neg (by omega)])
