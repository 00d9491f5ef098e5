/-! ===== deeds of the reference ===== -/
def okV (a : Ln) (d : Dt) : Prop := (∀ b r, dW d b = some r → b < nB a ∧ r < nR a) ∧ (∀ b, dF d b ≤ 9 ∧ (nB a ≤ b → dF d b = 0)) ∧ (∀ r, dR d r ≤ 6 ∧ (nR a ≤ r → dR d r = 0)) ∧ ∀ b r, dG d b r ≤ 9
theorem okD.v {a : Ln} {d : Dt} (h : okD a d) : okV a d := ⟨h.1, h.2.1, h.2.2.1, h.2.2.2.1⟩
theorem okW0V {a : Ln} {d : Dt} (ha : okLn a) (hd : okV a d) {b r : Nat} (hb : b < nB a) (hr : r < nR a) : okW (W0 a d b r) := okW_wds (Nat.lt_of_lt_of_le hb ha.1) (hd.2.1 b).1 (ha.2.2.1 b hb).1 (Nat.lt_of_lt_of_le hr ha.2.1) (ha.2.2.2 r hr).1 (hd.2.2.2 b r)
def bdLn (a : Ln) : Prop := ∀ W, okW W → (-1000000 ≤ (nL a W).toInt ∧ (nL a W).toInt ≤ 1000000) ∧ -1000000 ≤ (nT a W).toInt ∧ (nT a W).toInt ≤ 1000000
theorem LnC.bd {mi : TMi} {a : Ln} (h : LnC mi 18 a) (ha : okLn a) : bdLn a := fun W hW => ⟨CLaw_bd (h.ld ha).2.2.2.2.1 hW, CLaw_bd (h.ld ha).2.2.2.2.2 hW⟩
/-- a land of the reference -/
def LnR (g : Nat → Int32) (a : Ln) : Prop := g 1 = nI (nB a) ∧ g 2 = nI (nR a) ∧ g 0 = nI (nN a) ∧ (∀ b, b < nB a → g (9 + b) = nI (nM a b)) ∧ (∀ b, b < nB a → g (15 + b) = nI (nD a b)) ∧ (∀ r, r < nR a → g (21 + r) = nI (nNm a r)) ∧ (∀ r, r < nR a → g (25 + r) = nI (nBs a r)) ∧ RLaw g 0 (nL a) ∧ RLaw g 1 (nT a)
theorem RLaw.fr {g g' : Nat → Int32} {w : Nat} {f : (Nat → Int32) → Int32} (hw : w < 2) (h : RLaw g w f) (e : ∀ k, k < 29 ∨ 471 ≤ k → g' k = g k) : RLaw g' w f := by
  rcases h with ⟨h1, h2⟩ | ⟨h1, fr, cs, h2, h3, h4, h5, h6⟩
  · exact Or.inl ⟨by rw [e _ (by omega)]; exact h1, h2⟩
  · refine Or.inr ⟨by rw [e _ (by omega)]; exact h1, fr, cs, by rw [e _ (by omega)]; exact h2, by rw [e _ (by omega)]; exact h3, h4, fun k hk => ?_, h6⟩
    rw [e _ (by omega)]
    exact h5 k hk
theorem LnR.fr {g g' : Nat → Int32} {a : Ln} (ha : okLn a) (h : LnR g a) (e : ∀ k, k < 29 ∨ 471 ≤ k → g' k = g k) : LnR g' a := by
  obtain ⟨h1, h2, h3, h4, h5, h6, h7, h8, h9⟩ := h
  have hB := ha.1
  have hR := ha.2.1
  refine ⟨by rw [e _ (by omega)]; exact h1, by rw [e _ (by omega)]; exact h2, by rw [e _ (by omega)]; exact h3, fun b hb => by rw [e _ (by omega)]; exact h4 b hb, fun b hb => by rw [e _ (by omega)]; exact h5 b hb, fun b hb => by rw [e _ (by omega)]; exact h6 b hb, fun b hb => by rw [e _ (by omega)]; exact h7 b hb, h8.fr (by decide) e, h9.fr (by decide) e⟩
abbrev CrA (mi : TMi) (d : Dt) : Prop := Cr (fun k => mi 120 (29 + k)) d
theorem cr_in {mi : TMi} {d : Dt} (h : CrA mi d) {b : Nat} (hb : b < 6) : mi 120 (29 + b) = oI (dW d b) := h.1 b hb
theorem cr_fl {mi : TMi} {d : Dt} (h : CrA mi d) {b : Nat} (hb : b < 6) : mi 120 (35 + b) = nI (dF d b) := by
  rw [show 35 + b = 29 + (6 + b) by omega]; exact h.2.1 b hb
theorem cr_rm {mi : TMi} {d : Dt} (h : CrA mi d) {r : Nat} (hr : r < 4) : mi 120 (41 + r) = nI (dR d r) := by
  rw [show 41 + r = 29 + (12 + r) by omega]; exact h.2.2.1 r hr
theorem cr_gf {mi : TMi} {d : Dt} (h : CrA mi d) {b r : Nat} (hb : b < 6) (hr : r < 4) : mi 120 (45 + 6 * r + b) = nI (dG d b r) := by
  rw [show 45 + 6 * r + b = 29 + (16 + (6 * r + b)) by omega]; exact h.2.2.2 b r hb hr
theorem CrA.fr {mi mi' : TMi} {d : Dt} (h : CrA mi d) (e : mi' 120 = mi 120) : CrA mi' d := by unfold CrA; rw [e]; exact h
theorem shU (g : Nat → Int32) (k : Nat) (x : Int32) : (fun j => upd g (29 + k) x (29 + j)) = upd (fun j => g (29 + j)) k x := by
  funext j
  by_cases e : j = k
  · subst e; rw [upd_at, upd_at]
  · rw [upd_ne _ _ (by omega), upd_ne _ _ e]
theorem CrA.up {mi : TMi} {d d' : Dt} {k : Nat} {x : Int32} (h : Cr (upd (fun j => mi 120 (29 + j)) k x) d') : CrA (up mi 120 (29 + k) x) d' := by
  unfold CrA
  rw [up_self, shU]
  exact h
/-- what a call of the reference leaves as it was -/
def FRp (mi mi' : TMi) : Prop := (∀ n, n < 119 ∨ n = 121 ∨ n = 122 ∨ n = 134 ∨ n = 135 → mi' n = mi n) ∧ mi' 119 5 = mi 119 5 ∧ mi' 119 13 = mi 119 13 ∧ mi' 119 14 = mi 119 14 ∧ mi' 119 21 = mi 119 21 ∧ mi' 119 22 = mi 119 22
theorem FRp.refl (mi : TMi) : FRp mi mi := ⟨fun _ _ => rfl, rfl, rfl, rfl, rfl, rfl⟩
theorem FRp.trans {a b c : TMi} (h : FRp a b) (k : FRp b c) : FRp a c := ⟨fun n hn => by rw [k.1 n hn, h.1 n hn], by rw [k.2.1, h.2.1], by rw [k.2.2.1, h.2.2.1], by rw [k.2.2.2.1, h.2.2.2.1], by rw [k.2.2.2.2.1, h.2.2.2.2.1], by rw [k.2.2.2.2.2, h.2.2.2.2.2]⟩
theorem FRp.u119 (mi : TMi) {k : Nat} (x : Int32) (h : k ≠ 5 ∧ k ≠ 13 ∧ k ≠ 14 ∧ k ≠ 21 ∧ k ≠ 22) : FRp mi (up mi 119 k x) := ⟨fun n hn => up_ne _ _ _ (by omega), up_nk _ _ _ (Ne.symm h.1), up_nk _ _ _ (Ne.symm h.2.1), up_nk _ _ _ (Ne.symm h.2.2.1), up_nk _ _ _ (Ne.symm h.2.2.2.1), up_nk _ _ _ (Ne.symm h.2.2.2.2)⟩
theorem FRp.u (mi : TMi) {n : Nat} (k : Nat) (x : Int32) (h : 119 < n ∧ n ≠ 121 ∧ n ≠ 122 ∧ n ≠ 134 ∧ n ≠ 135) : FRp mi (up mi n k x) := by
  have e : up mi n k x 119 = mi 119 := up_ne _ _ _ (by omega)
  exact ⟨fun m hm => up_ne _ _ _ (by omega), by rw [e], by rw [e], by rw [e], by rw [e], by rw [e]⟩
theorem FRp.of {mi mi' : TMi} {ns : List Nat} (F : Fr ns mi mi') (h : ∀ n, n < 120 ∨ n = 121 ∨ n = 122 ∨ n = 134 ∨ n = 135 → n ∉ ns) : FRp mi mi' := by
  have e : mi' 119 = mi 119 := F 119 (h 119 (by omega))
  exact ⟨fun n hn => F n (h n (by omega)), by rw [e], by rw [e], by rw [e], by rw [e], by rw [e]⟩
/-- the same, but for why the last told deed could not be -/
def FRw (mi mi' : TMi) : Prop := (∀ n, n < 119 ∨ n = 121 ∨ n = 122 ∨ n = 134 ∨ n = 135 → mi' n = mi n) ∧ mi' 119 5 = mi 119 5 ∧ mi' 119 13 = mi 119 13 ∧ mi' 119 14 = mi 119 14
theorem FRp.w {a b : TMi} (h : FRp a b) : FRw a b := ⟨h.1, h.2.1, h.2.2.1, h.2.2.2.1⟩
theorem FRw.refl (mi : TMi) : FRw mi mi := ⟨fun _ _ => rfl, rfl, rfl, rfl⟩
theorem FRw.trans {a b c : TMi} (h : FRw a b) (k : FRw b c) : FRw a c := ⟨fun n hn => by rw [k.1 n hn, h.1 n hn], by rw [k.2.1, h.2.1], by rw [k.2.2.1, h.2.2.1], by rw [k.2.2.2, h.2.2.2]⟩
theorem FRw.u119 (mi : TMi) {k : Nat} (x : Int32) (h : k ≠ 5 ∧ k ≠ 13 ∧ k ≠ 14) : FRw mi (up mi 119 k x) := ⟨fun n hn => up_ne _ _ _ (by omega), up_nk _ _ _ (Ne.symm h.1), up_nk _ _ _ (Ne.symm h.2.1), up_nk _ _ _ (Ne.symm h.2.2)⟩
def F120 (mi mi' : TMi) : Prop := ∀ k, k < 29 ∨ 69 ≤ k → mi' 120 k = mi 120 k
theorem F120.trans {a b c : TMi} (h : F120 a b) (k : F120 b c) : F120 a c := fun n hn => by rw [k n hn, h n hn]
theorem F120.of {mi mi' : TMi} (h : mi' 120 = mi 120) : F120 mi mi' := fun k _ => by rw [h]
theorem F120.u (mi : TMi) {k : Nat} (x : Int32) (h : k < 40) : F120 mi (up mi 120 (29 + k) x) := fun j hj => up_nk _ _ _ (by omega)
theorem FRp.laws {mi mi' : TMi} (F : Fr [124, 125, 126, 127] mi mi') : FRp mi mi' := FRp.of F (fun n hn => by simp; omega)
/-- the reference's likes and takes -/
def LT (mi : TMi) (a : Ln) (d : Dt) : Prop := ∀ b r, b < nB a → r < nR a → Lk mi 126 b r = lkD a d b r ∧ Lk mi 127 b r = tkD a d b r
theorem LT.b6 {mi : TMi} {a : Ln} {d : Dt} (h : LT mi a d) (ha : okLn a) (hd : okV a d) (hb : bdLn a) : bdA mi 126 (nB a) (nR a) := fun b r h1 h2 => by rw [(h b r h1 h2).1]; exact (hb _ (okW0V ha hd h1 h2)).1
theorem LT.b7 {mi : TMi} {a : Ln} {d : Dt} (h : LT mi a d) (ha : okLn a) (hd : okV a d) (hb : bdLn a) : bdA mi 127 (nB a) (nR a) := fun b r h1 h2 => by rw [(h b r h1 h2).2]; exact (hb _ (okW0V ha hd h1 h2)).2
theorem c_laysLikes {l : Launch} {h : Nat} {mi : TMi} {ml : TMl} {z : Nat} {a : Ln} {d : Dt} {Q : TMi → TMl → Nat → Prop} (ha : okLn a) (hd : okV a d) (hl : LnR (mi 120) a) (hc : CrA mi d)
    (hq : ∀ mi', Fr [124, 125, 126, 127] mi mi' → LT mi' a d → Q mi' ml z) : CV l (h + 3) m_R_laysLikes [.ref 119] mi ml z Q := by
  obtain ⟨h1, h2, h3, h4, h5, h6, h7, h8, h9⟩ := hl
  have hB := ha.1
  have hR := ha.2.1
  have ew : ∀ b r, b < nB a → r < nR a → wdR (mi 120) b r = W0 a d b r := fun b r hb hr => by
    rw [wdR_wds, cr_fl hc (by omega), h4 b hb, h6 r hr, cr_gf hc (by omega) (by omega)]
    rfl
  refine c_R_laysLikes h1 hB h2 hR (fun b r hb hr => by rw [ew b r hb hr]; exact okW0V ha hd hb hr) h8 h9 (fun mi' F e => hq mi' F (fun b r hb hr => ?_))
  have := e b r hb hr
  rw [ew b r hb hr] at this
  unfold Lk lkD tkD
  rw [this.1, this.2]
  exact ⟨rfl, rfl⟩
theorem t64 (x : Int32) : x.toInt64.toInt = x.toInt := Int32.toInt_toInt64 x
theorem t64_32 (x : Int32) : x.toInt64.toInt32 = x := by
  apply Int32.toInt_inj.mp
  have := i32_bd x
  rw [Int64.toInt_toInt32, t64, Int.bmod_eq_of_le (by omega) (by omega)]
theorem adm_congr {B : Nat} {T T' : Nat → Nat → Int} {rm : Nat → Nat} {wo : Nat → Option Nat} {b r : Nat} (hb : b < B) (h : ∀ b, b < B → T b r = T' b r) : adm B T rm wo b r = adm B T' rm wo b r := by
  have e : lst (inn wo r) (fun b' => prO T b' r) B = lst (inn wo r) (fun b' => prO T' b' r) B := lst_congr (fun _ _ => rfl) (fun b' hb' => by unfold prO; rw [h b' hb'])
  unfold adm
  rw [e]
  cases q : lst (inn wo r) (fun b' => prO T' b' r) B with
  | none => rfl
  | some m =>
    have e1 : prO T m r = prO T' m r := by unfold prO; rw [h m (lst_lt q).1]
    have e2 : prO T b r = prO T' b r := by unfold prO; rw [h b hb]
    dsimp only
    rw [e1, e2]
theorem wdO_congr {L T L' T' : Nat → Nat → Int} {b r : Nat} (h : L b r = L' b r ∧ T b r = T' b r) : wdO L T b r = wdO L' T' b r := by unfold wdO; rw [h.1, h.2]
theorem lst_lt7 {mi : TMi} {a : Ln} {d : Dt} (h : LT mi a d) {r : Nat} (hr : r < nR a) (p : Nat → Bool) : lst p (fun b => prO (Lk mi 127) b r) (nB a) = lst p (fun b => prO (tkD a d) b r) (nB a) := lst_congr (fun _ _ => rfl) (fun b hb => by unfold prO; rw [(h b r hb hr).2])
theorem c_pushes {l : Launch} {h : Nat} {mi : TMi} {ml : TMl} {z : Nat} {r fu : Nat} {a : Ln} {d : Dt} {Q : Int32 → TMi → TMl → Nat → Prop} (ha : okLn a) (hd : okV a d) (hbd : bdLn a) (hl : LnR (mi 120) a) (hc : CrA mi d) (hr : r < nR a) (hfu : cnt (inn (dW d) r) (nB a) ≤ fu)
    (hq : ∀ mi', FRp mi mi' → F120 mi mi' → mi' 128 = mi 128 → CrA mi' (dWs d (psh (tkD a d) (nB a) r (dR d r) fu (dW d)).2.2) → mi' 119 20 = oI (psh (tkD a d) (nB a) r (dR d r) fu (dW d)).2.1 → Q (nI (psh (tkD a d) (nB a) r (dR d r) fu (dW d)).1) mi' ml z) : CI l (h + 4) m_R_pushes [.ref 119, .int (nI r)] mi ml z Q := by
  have hB6 := ha.1
  have hR4 := ha.2.1
  refine t_R_pushes mi ml z _ (c_laysLikes ha hd hl hc (fun m0 F0 hLT => ?_))
  generalize hG : psh (tkD a d) (nB a) r (dR d r) fu (dW d) = G at hq
  have key : ∀ fu wo m (j : Nat) (pv : Option Nat), FRp mi m → F120 mi m → m 128 = mi 128 → LT m a d → CrA m (dWs d wo) → (∀ b r, wo b = some r → b < nB a ∧ r < nR a) → m 119 20 = oI pv → cnt (inn wo r) (nB a) ≤ fu → G.1 = (psh (tkD a d) (nB a) r (dR d r) fu wo).1 + j → G.2.2 = (psh (tkD a d) (nB a) r (dR d r) fu wo).2.2 → G.2.1 = (match (psh (tkD a d) (nB a) r (dR d r) fu wo).2.1 with | none => pv | some m' => some m') →
      Ev l (h + 4) m_R_pushes 11 ([.ref 119, .int (nI r), .int (nI j)], [], st m ml z) (qI Q) := by
    intro fu
    induction fu with
    | zero =>
      intro wo m j pv Fp F2 F8 hT hcc hwo hpv hcn e1 e2 e3
      have hB : m 120 1 = nI (nB a) := by rw [F2 1 (by omega)]; exact hl.1
      have hww : isW (fun b => m 120 (29 + b)) (nB a) (nR a) wo := fun b hb => ⟨hcc.1 b (by omega), fun r e => (hwo b r e).2⟩
      have hrm := cr_rm hcc (show r < 4 by omega)
      have h6 := (hd.2.2.1 r).1
      refine t_R_pushes_11 m ml z _ _ (c_R_becksIn hB hB6 ?_)
      rw [isW_enc hww hR4 (show r < 4 by omega)]
      refine c_R_bitsOf (enc_64 _ hB6) ⟨in_addL (a := 41) (by omega) (by decide), ?_⟩
      have hcl : pop6 (enc (fun b => wo b == some r) (nB a)) = cnt (inn wo r) (nB a) := pop_enc (inn wo r) hB6
      rw [addL_cl 41 r (by omega), hrm, hcl, nI_leI (by omega) (show dR (dWs d wo) r < 2 ^ 31 from by show dR d r < _; omega)]
      refine ⟨fun _ => ?_, fun c => absurd (show cnt (inn wo r) (nB a) ≤ dR (dWs d wo) r by omega) c⟩
      rw [psh_done (by omega)] at e1 e2 e3
      have := hq m Fp F2 F8 (by rw [e2]; exact hcc) (by rw [e3]; exact hpv)
      rw [e1, Nat.zero_add] at this
      exact this
    | succ fu ih =>
      intro wo m j pv Fp F2 F8 hT hcc hwo hpv hcn e1 e2 e3
      have hB : m 120 1 = nI (nB a) := by rw [F2 1 (by omega)]; exact hl.1
      have hww : isW (fun b => m 120 (29 + b)) (nB a) (nR a) wo := fun b hb => ⟨hcc.1 b (by omega), fun r e => (hwo b r e).2⟩
      have hrm : m 120 (41 + r) = nI (dR d r) := cr_rm hcc (show r < 4 by omega)
      have h6 := (hd.2.2.1 r).1
      have hcl0 := cnt_le (inn wo r) (nB a)
      have h64 : enc (fun b => wo b == some r) (nB a) < 64 := enc_64 _ hB6
      refine t_R_pushes_11 m ml z _ _ (c_R_becksIn hB hB6 ?_)
      rw [isW_enc hww hR4 (show r < 4 by omega)]
      refine c_R_bitsOf h64 ⟨in_addL (a := 41) (by omega) (by decide), ?_⟩
      have hcl : pop6 (enc (fun b => wo b == some r) (nB a)) = cnt (inn wo r) (nB a) := pop_enc (inn wo r) hB6
      rw [addL_cl 41 r (by omega), hrm, hcl, nI_leI (by omega) (by omega)]
      refine ⟨fun c => ?_, fun c => c_R_becksIn hB hB6 ?_⟩
      · rw [psh_done (by omega)] at e1 e2 e3
        have := hq m Fp F2 F8 (by rw [e2]; exact hcc) (by rw [e3]; exact hpv)
        rw [e1, Nat.zero_add] at this
        exact this
      · rw [isW_enc hww hR4 (show r < 4 by omega)]
        refine c_R_leastOf hB hB6 hR4 (hT.b7 ha hd hbd) hr h64 ?_
        have el : lst (fun b' => tb (enc (fun b => wo b == some r) (nB a)) b') (fun b' => prO (Lk m 127) b' r) (nB a) = lst (inn wo r) (fun b' => prO (tkD a d) b' r) (nB a) := by
          rw [lst_lt7 hT hr]; exact lst_enc (inn wo r) _ (nB a)
        rw [el]
        obtain ⟨q, hq'⟩ := lst_some (p := inn wo r) (f := fun b => prO (tkD a d) b r) (B := nB a) (by omega)
        have hqB := lst_lt hq'
        rw [hq', up_at]
        show vp_in (29 + nI q) 4113 ∧ Ev l (h + 4) m_R_pushes 11 ([.ref 119, .int (nI r), .int (nI j + 1)], [], st (up (up m 119 20 (nI q)) 120 ((29 + nI q).toNatClampNeg) (-1)) ml z) (qI Q)
        refine ⟨in_addL (a := 29) (by omega) (by decide), ?_⟩
        rw [addL_cl 29 q (by omega), nI_1]
        have hcn' := cnt_clr (p := inn wo r) hqB.1 hqB.2
        rw [inn_clr] at hcn'
        simp only [psh, hq'] at e1 e2 e3
        rw [if_pos (by omega)] at e1 e2 e3
        refine ih _ _ (j + 1) (some q) ((Fp.trans (FRp.u119 m _ (by decide))).trans (FRp.u _ _ _ (by decide))) ?_ ?_ ?_ ?_ ?_ ?_ (by omega) (by rw [e1]; omega) e2 ?_
        · refine F2.trans (F120.trans (F120.of (up_ne _ _ _ (by decide))) (F120.u _ _ (by omega)))
        · rw [up_ne _ _ _ (by decide), up_ne _ _ _ (by decide)]; exact F8
        · intro b' r' hb' hr'
          unfold Lk
          rw [up_ne _ _ _ (show 126 ≠ 120 by decide), up_ne _ _ _ (show 126 ≠ 119 by decide), up_ne _ _ _ (show 127 ≠ 120 by decide), up_ne _ _ _ (show 127 ≠ 119 by decide)]
          exact hT b' r' hb' hr'
        · refine CrA.up (d := d) ?_
          rw [up_ne _ _ _ (show 120 ≠ 119 by decide)]
          exact Cr.sWs hcc (by omega)
        · intro b' r' hb'
          by_cases e : b' = q
          · simp [e] at hb'
          · simp [e] at hb'; exact hwo b' r' hb'
        · rw [up_ne _ _ _ (show 119 ≠ 120 by decide), up_at]; rfl
        · rw [e3]
          dsimp only
          cases (psh (tkD a d) (nB a) r (dR d r) fu (fun i => if i = q then none else wo i)).2.1 <;> rfl
  refine key fu (dW d) (up m0 119 20 (-1)) 0 none ((FRp.laws F0).trans (FRp.u119 _ _ (by decide))) ?_ ?_ ?_ ?_ hd.1 (up_at _ _ _ _) hfu (by rw [← hG]; rfl) (by rw [← hG]) ?_
  · exact F120.of (by rw [up_ne _ _ _ (by decide)]; exact F0 120 (by decide))
  · rw [up_ne _ _ _ (by decide)]; exact F0 128 (by decide)
  · intro b' r' hb' hr'
    unfold Lk
    rw [up_ne _ _ _ (show 126 ≠ 119 by decide), up_ne _ _ _ (show 127 ≠ 119 by decide)]
    exact hLT b' r' hb' hr'
  · refine CrA.fr (mi := mi) hc ?_
    rw [up_ne _ _ _ (by decide)]; exact F0 120 (by decide)
  · rw [← hG]
    cases (psh (tkD a d) (nB a) r (dR d r) fu (dW d)).2.1 <;> rfl
