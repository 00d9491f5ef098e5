/-! ===== deeds of a scene of the class ===== -/
theorem inB_nI {a : Ln} {x : Int32} (h : inB a x) : x = nI x.toInt.toNat ∧ x.toInt.toNat < nB a := ⟨nI_toNat h.1, by have := h.2; have := h.1; omega⟩
theorem inR_nI {a : Ln} {x : Int32} (h : inR a x) : x = nI x.toInt.toNat ∧ x.toInt.toNat < nR a := ⟨nI_toNat h.1, by have := h.2; have := h.1; omega⟩
theorem rm_of {mi : TMi} {c : Nat} {a : Ln} {d : Dt} (h : Cs (mi c) d) (ha : okLn a) (hd : okD a d) {r : Nat} (hr : r < nR a) : mi c (12 + r) = nI (dR d r) ∧ dR d r < 100 := ⟨h.2.2.1 r (Nat.lt_of_lt_of_le hr ha.2.1), by have := (hd.2.2.1 r).1; omega⟩
theorem Fr_up1 (mi : TMi) (n k : Nat) (x : Int32) : Fr [n] mi (up mi n k x) := Fr_up mi n k x
theorem Fr_one {mi mi' : TMi} {c n : Nat} (F : Fr [c] mi mi') (h : n ≠ c) : mi' n = mi n := F n (by simpa using h)
theorem clr6 : ∀ m, m < 64 → ∀ r, r < 6 → nI m &&& (((1 : Int32) <<< (nI r &&& 31)) ^^^ (-1)) = nI (if tb m r = true then m - 2 ^ r else m) := by decide +kernel
theorem clr6_tb : ∀ m, m < 64 → ∀ r, r < 6 → ∀ r', r' < 6 → tb (if tb m r = true then m - 2 ^ r else m) r' = (!decide (r' = r) && tb m r') := by decide +kernel
theorem clr6_le (m r : Nat) : (if tb m r = true then m - 2 ^ r else m) ≤ m := by
  split
  · exact Nat.sub_le _ _
  · exact Nat.le_refl _
theorem enc_clr {p : Nat → Bool} {B m : Nat} (hB : B ≤ 6) (hm : m < B) : nI (enc p B) &&& (((1 : Int32) <<< (nI m &&& 31)) ^^^ (-1)) = nI (enc (fun b => p b && !decide (b = m)) B) := by
  have h64 := enc_64 p hB
  rw [clr6 _ h64 m (by omega)]
  congr 1
  refine enc_of (Nat.lt_of_le_of_lt (clr6_le _ _) (enc_lt p B)) (fun r hr => ?_)
  rw [clr6_tb _ h64 m (by omega) r (by omega), enc_tb p B r hr, Bool.and_comm]
theorem cnt_clr {p : Nat → Bool} {m : Nat} : ∀ {B : Nat}, m < B → p m = true → cnt (fun b => p b && !decide (b = m)) B + 1 = cnt p B
  | 0, h, _ => absurd h (Nat.not_lt_zero _)
  | B + 1, h, hp => by
    by_cases e : m = B
    · subst e
      simp only [cnt, hp]
      simp
      exact cnt_congr (fun b hb => by have : ¬ b = m := by omega
                                      simp [this])
    · have ih := cnt_clr (B := B) (by omega) hp
      have : ¬ B = m := fun q => e q.symm
      simp only [cnt, this]
      simp
      split <;> omega
theorem inn_clr {wo : Nat → Option Nat} {m r : Nat} : (fun b => inn wo r b && !decide (b = m)) = inn (fun i => if i = m then none else wo i) r := by
  funext b
  by_cases e : b = m
  · simp [inn, e]
  · simp [inn, e]
/-- pushing out till there is room: how many, who last, and where all are then -/
def psh (T : Nat → Nat → Int) (B r n : Nat) : Nat → (Nat → Option Nat) → Nat × Option Nat × (Nat → Option Nat)
  | 0, wo => (0, none, wo)
  | k + 1, wo => if n < cnt (inn wo r) B then (match lst (inn wo r) (fun b => prO T b r) B with
    | none => (0, none, wo)
    | some m => ((psh T B r n k (fun i => if i = m then none else wo i)).1 + 1, (match (psh T B r n k (fun i => if i = m then none else wo i)).2.1 with
      | none => some m
      | some m' => some m'), (psh T B r n k (fun i => if i = m then none else wo i)).2.2)) else (0, none, wo)
def dWide (a : Ln) (d : Dt) (r n : Nat) : Int32 × Dt := (nI (psh (tkD a d) (nB a) r n 6 (dW d)).1, ((psh (tkD a d) (nB a) r n 6 (dW d)).2.2, (setR d r n).2))
def iWide (a : Ln) (d : Dt) (y n : Int32) : Int32 × Dt := if inR a y ∧ 0 ≤ n.toInt ∧ n.toInt ≤ 6 then dWide a d y.toInt.toNat n.toInt.toNat else (-11, d)
theorem i32_lt0 {x : Int32} : x < 0 ↔ x.toInt < 0 := by rw [Int32.lt_iff_toInt_lt, Int32.toInt_zero]
theorem i32_lt1 {x : Int32} : x < 1 ↔ x.toInt < 1 := by rw [Int32.lt_iff_toInt_lt, show (1 : Int32).toInt = 1 by decide]
theorem i32_le9 {x : Int32} : x ≤ 9 ↔ x.toInt ≤ 9 := by rw [Int32.le_iff_toInt_le, show (9 : Int32).toInt = 9 by decide]
theorem i32_le6 {x : Int32} : x ≤ 6 ↔ x.toInt ≤ 6 := by rw [Int32.le_iff_toInt_le, show (6 : Int32).toInt = 6 by decide]
abbrev SL_17 (mi : TMi) (a : Ln) (d : Dt) : Prop := SLp mi 28 29 30 31 32 (nB a) (nR a) allP (lkD a d) (tkD a d)
theorem c_goInto_17 {l : Launch} {h : Nat} {mi : TMi} {ml : TMl} {z : Nat} {x y : Int32} {a : Ln} {d : Dt} {Q : Int32 → TMi → TMl → Nat → Prop} (ha : okLn a) (hd : okD a d) (hl : LnC mi 18 a) (hc : Cs (mi 27) d) (hs : SL_17 mi a d)
    (hq : ∀ mi', Fr [27] mi mi' → Cs (mi' 27) (iInto a d x y).2 → Q (iInto a d x y).1 mi' ml z) : CI l (h + 4) m_Sc_goInto [.ref 17, .int x, .int y] mi ml z Q := by
  have hB6 := ha.1
  have hR4 := ha.2.1
  have hw := hc.isW ha hd
  unfold iInto at hq
  refine t_Sc_goInto_17 mi ml z _ _ (c_hasBeck hl.1 hB6 ⟨fun c => ?_, fun c => c_hasRiver hl.2.1 hR4 ⟨fun c2 => ?_, fun c2 => ?_⟩⟩)
  · rw [bI_0, decide_eq_false_iff_not] at c
    rw [if_neg (fun q => c q.1)] at hq
    exact hq mi (Fr.refl _ _) hc
  · rw [bI_0, Bool.not_eq_false, decide_eq_true_eq] at c c2
    rw [if_pos ⟨c, c2⟩] at hq
    obtain ⟨ex, hb⟩ := inB_nI (a := a) c
    obtain ⟨ey, hr⟩ := inR_nI (a := a) c2
    generalize x.toInt.toNat = b at ex hb hq
    generalize y.toInt.toNat = r at ey hr hq
    subst ex ey
    have hin : vp_in (nI b) 40 := in_nI (by omega) (by decide)
    have h1 := isW_eq hw hR4 (show r < 4 by omega) hb
    unfold dInto at hq
    rw [cl_nI (by omega)]
    refine ⟨hin, fun c3 => ?_, fun c3 => ?_⟩
    · have e1 : ¬ dW d b = some r := fun q => by
        rw [q] at h1; apply c3; simpa using h1
      rw [if_neg e1] at hq
      refine c_Sc_bothWould_17 hB6 hR4 hs hb hr ⟨fun c4 => ?_, fun c4 => ?_⟩
      · rw [bI_0, Bool.not_eq_false] at c4
        rw [if_neg (by rw [c4]; decide)] at hq
        refine c_Sc_wouldAdmit_17 (lw := 40) (rm := dR d) rfl (by decide) hl.1 hB6 hR4 hs hw hb hr (rm_of hc ha hd hr).1 (rm_of hc ha hd hr).2 ⟨fun c5 => ?_, fun c5 => ?_⟩
        · rw [bI_0, Bool.not_eq_false] at c5
          rw [if_neg (by rw [c5]; decide)] at hq
          refine c_Sc_becksIn_17 (lw := 40) rfl (by decide) hl.1 hB6 ?_
          rw [isW_enc hw hR4 (show r < 4 by omega)]
          have h64 : enc (fun b => dW d b == some r) (nB a) < 64 := enc_64 (inn (dW d) r) hB6
          refine c_bitCount h64 (t_Sc_roomOf_17 _ _ _ _ ⟨in_addL (a := 12) (by omega) (by decide), ?_⟩)
          have hcn : pop6 (enc (fun b => dW d b == some r) (nB a)) = cnt (inn (dW d) r) (nB a) := pop_enc (inn (dW d) r) hB6
          have hcl := cnt_le (inn (dW d) r) (nB a)
          have hrm := rm_of hc ha hd hr
          rw [addL_cl 12 r (by omega), hrm.1, hcn, nI_leI (by omega) (by omega)]
          refine ⟨fun c6 => c_Sc_leastLiked_17 hl.1 hB6 hR4 hs hr h64 ?_, fun c6 => ?_⟩
          · rw [if_neg (by omega)] at hq
            have el : lst (fun b' => tb (enc (fun b => dW d b == some r) (nB a)) b') (fun b' => prO (tkD a d) b' r) (nB a) = lst (inn (dW d) r) (fun b' => prO (tkD a d) b' r) (nB a) := lst_enc (inn (dW d) r) _ (nB a)
            rw [el]
            cases e : lst (inn (dW d) r) (fun b' => prO (tkD a d) b' r) (nB a) with
            | none =>
              rw [e] at hq
              refine ⟨fun _ => ⟨hin, hq _ (Fr_up _ _ _ _) ?_⟩, fun q => absurd rfl q⟩
              rw [up_self]; exact hc.sW (by omega) (some r)
            | some m =>
              rw [e] at hq
              have hm := (lst_lt e).1
              refine ⟨fun q => absurd q (neg1_ne (by omega)), fun _ => ⟨in_nI (by omega) (by decide), hin, ?_⟩⟩
              have em : (oI (some m)).toNatClampNeg = m := cl_nI (by omega)
              rw [em]
              refine hq _ ((Fr_up _ _ _ _).step (Fr_up _ _ _ _)) ?_
              rw [up_self, up_self]; exact (hc.sW (by omega) none).sW (by omega) (some r)
          · rw [if_pos (by omega)] at hq
            refine ⟨hin, hq _ (Fr_up _ _ _ _) ?_⟩
            rw [up_self]; exact hc.sW (by omega) (some r)
        · rw [bI_0] at c5
          rw [if_pos c5] at hq
          exact hq mi (Fr.refl _ _) hc
      · rw [bI_0] at c4
        rw [if_pos c4] at hq
        exact hq mi (Fr.refl _ _) hc
    · have e1 : dW d b = some r := by rw [c3] at h1; simpa using h1
      rw [if_pos e1] at hq
      exact hq mi (Fr.refl _ _) hc
  · rw [bI_0, decide_eq_false_iff_not] at c2
    rw [if_neg (fun q => c2 q.2)] at hq
    exact hq mi (Fr.refl _ _) hc
theorem c_goOut_17 {l : Launch} {h : Nat} {mi : TMi} {ml : TMl} {z : Nat} {x : Int32} {a : Ln} {d : Dt} {Q : Int32 → TMi → TMl → Nat → Prop} (ha : okLn a) (hd : okD a d) (hl : LnC mi 18 a) (hc : Cs (mi 27) d)
    (hq : ∀ mi', Fr [27] mi mi' → Cs (mi' 27) (iOut a d x).2 → Q (iOut a d x).1 mi' ml z) : CI l (h + 2) m_Sc_goOut [.ref 17, .int x] mi ml z Q := by
  have hB6 := ha.1
  have hR4 := ha.2.1
  have hw := hc.isW ha hd
  unfold iOut at hq
  refine t_Sc_goOut_17 mi ml z _ (c_hasBeck hl.1 hB6 ⟨fun c => ?_, fun c => ?_⟩)
  · rw [bI_0, Bool.not_eq_false, decide_eq_true_eq] at c
    rw [if_pos c] at hq
    obtain ⟨ex, hb⟩ := inB_nI (a := a) c
    generalize x.toInt.toNat = b at ex hb hq
    subst ex
    have hin : vp_in (nI b) 40 := in_nI (by omega) (by decide)
    rw [cl_nI (by omega), (hw b hb).1]
    unfold dOut at hq
    cases e : dW d b with
    | none =>
      rw [e] at hq
      exact ⟨hin, fun q => absurd rfl q, fun _ => hq mi (Fr.refl _ _) hc⟩
    | some r =>
      rw [e] at hq
      have hr := (hw b hb).2 r e
      refine ⟨hin, fun _ => ⟨hin, hq _ (Fr_up _ _ _ _) ?_⟩, fun q => absurd q (neg1_ne (by omega))⟩
      rw [up_self]; exact hc.sW (by omega) none
  · rw [bI_0, decide_eq_false_iff_not] at c
    rw [if_neg c] at hq
    exact hq mi (Fr.refl _ _) hc
theorem c_give_17 {l : Launch} {h : Nat} {mi : TMi} {ml : TMl} {z : Nat} {x y n : Int32} {a : Ln} {d : Dt} {Q : Int32 → TMi → TMl → Nat → Prop} (ha : okLn a) (hd : okD a d) (hl : LnC mi 18 a) (hc : Cs (mi 27) d) (hs : SL_17 mi a d)
    (hq : ∀ mi', Fr [27, 15, 16, 28, 29, 30, 31, 32] mi mi' → Cs (mi' 27) (iGive a d y x n).2 → SL_17 mi' a (iGive a d y x n).2 → Q (iGive a d y x n).1 mi' ml z) : CI l (h + 4) m_Sc_give [.ref 17, .int y, .int x, .int n] mi ml z Q := by
  have hB6 := ha.1
  have hR4 := ha.2.1
  unfold iGive at hq
  refine t_Sc_give_17 mi ml z _ _ _ (c_hasBeck hl.1 hB6 ⟨fun c => ?_, fun c => c_hasRiver hl.2.1 hR4 ⟨fun c2 => ?_, fun c2 => ⟨fun c3 => ?_, fun c3 => ⟨fun c4 => ?_, fun c4 => ?_⟩⟩⟩⟩)
  · rw [bI_0, decide_eq_false_iff_not] at c
    rw [if_neg (fun q => c q.1)] at hq
    exact hq mi (Fr.refl _ _) hc hs
  · rw [bI_0, decide_eq_false_iff_not] at c2
    rw [if_neg (fun q => c2 q.2.1)] at hq
    exact hq mi (Fr.refl _ _) hc hs
  · rw [i32_lt1] at c3
    rw [if_neg (by omega)] at hq
    exact hq mi (Fr.refl _ _) hc hs
  · rw [i32_lt1] at c3
    rw [i32_le9] at c4
    rw [bI_0, Bool.not_eq_false, decide_eq_true_eq] at c c2
    rw [if_pos ⟨c, c2, by omega, c4⟩] at hq
    have hn := nI_toNat (x := n) (by omega)
    have hn9 : n.toInt.toNat ≤ 9 := by omega
    obtain ⟨ex, hb⟩ := inB_nI (a := a) c
    obtain ⟨ey, hr⟩ := inR_nI (a := a) c2
    generalize x.toInt.toNat = b at ex hb hq
    generalize y.toInt.toNat = r at ey hr hq
    generalize n.toInt.toNat = k at hn hn9 hq
    subst ex ey hn
    have hg9 := hd.2.2.2.1 b r
    unfold dGive at hq
    refine t_Sc_giftsOf_17 _ _ _ _ _ (t_B_pair _ _ _ _ _ ?_)
    rw [mul4, addL_cl 16 (4 * b + r) (by omega), hc.2.2.2 b r (by omega) (by omega), nI_add]
    refine ⟨in_addL (a := 16) (by omega) (by decide), fun c5 => t_B_pair _ _ _ _ _ ?_, fun c5 => ?_⟩
    · rw [mul4, addL_cl 16 (4 * b + r) (by omega)]
      have h9 : dG d b r + k ≤ 9 := (nI_leI (a := dG d b r + k) (b := 9) (by omega) (by decide)).mp c5
      rw [if_pos h9] at hq
      refine ⟨in_addL (a := 16) (by omega) (by decide), in_nI (by omega) (by decide), ?_⟩
      rw [cl_nI (by omega), up_ne _ _ _ (show 20 ≠ 27 by decide), hl.2.2.2.1 b hb]
      have hc' : Cs ((up mi 27 (16 + (4 * b + r)) (nI (dG d b r + k))) 27) (setG d b r (dG d b r + k)) := by rw [up_self]; exact hc.sG (by omega) (by omega) _
      have F1 := Fr_up mi 27 (16 + (4 * b + r)) (nI (dG d b r + k))
      generalize up mi 27 (16 + (4 * b + r)) (nI (dG d b r + k)) = m1 at hc' F1 ⊢
      have hl1 : LnC m1 18 a := hl.fr (fun k hk => F1 _ (by simp; omega))
      have hs1 : SLp m1 28 29 30 31 32 (nB a) (nR a) (fun b' r' => ¬ (b' = b ∧ r' = r)) (lkD a (setG d b r (dG d b r + k))) (tkD a (setG d b r (dG d b r + k))) := by
        refine (hs.fr (F1 _ (by decide)) (F1 _ (by decide)) (F1 _ (by decide)) (F1 _ (by decide)) (F1 _ (by decide))).cong (fun b' r' _ _ hp => ⟨trivial, ?_, ?_⟩)
        · simp [lkD, W0, dG, dF, setG, hp]
        · simp [tkD, W0, dG, dF, setG, hp]
      have hg : dG (setG d b r (dG d b r + k)) b r = dG d b r + k := by simp [dG, setG]
      have hm : Ms m1 27 (nL a) (nT a) (lkD a (setG d b r (dG d b r + k))) (tkD a (setG d b r (dG d b r + k))) b r (nI (nM a b)) (nI (dG d b r + k)) := by
        have e1 : m1 27 (6 + b) = nI (dF d b) := hc'.2.1 b (by omega)
        have e2 : m1 24 r = nI (nNm a r) := hl1.2.2.2.2.2.1 r hr
        unfold Ms
        rw [e1, e2]
        refine ⟨okW_wds (by omega) (hd.2.1 b).1 (ha.2.2.1 b hb).1 (by omega) (ha.2.2.2 r hr).1 (by omega), ?_, ?_⟩
        · unfold lkD W0; rw [hg]; rfl
        · unfold tkD W0; rw [hg]; rfl
      refine c_Sc_measure_17 (hl1.ld ha) hb hr hm hs1 (fun m2 F2 h2 => hq m2 (fun q hq' => ?_) ?_ (h2.mono (fun b' r' _ _ _ => ?_)))
      · simp only [List.mem_cons, List.mem_nil_iff, or_false, not_or] at hq'
        rw [F2 q (by simp only [List.mem_cons, List.mem_nil_iff, or_false, not_or]; exact hq'.2), F1 q (by simpa using hq'.1)]
      · rw [F2 27 (by decide)]; exact hc'
      · by_cases q : b' = b ∧ r' = r
        · exact Or.inr q
        · exact Or.inl q
    · have h9 : ¬ dG d b r + k ≤ 9 := fun q => c5 ((nI_leI (a := dG d b r + k) (b := 9) (by omega) (by decide)).mpr q)
      rw [if_neg h9] at hq
      exact hq mi (Fr.refl _ _) hc hs
  · rw [i32_le9] at c4
    rw [if_neg (by omega)] at hq
    exact hq mi (Fr.refl _ _) hc hs
theorem c_pour_17 {l : Launch} {h : Nat} {mi : TMi} {ml : TMl} {z : Nat} {x n : Int32} {a : Ln} {d : Dt} {Q : Int32 → TMi → TMl → Nat → Prop} (ha : okLn a) (hd : okD a d) (hl : LnC mi 18 a) (hc : Cs (mi 27) d) (hs : SL_17 mi a d)
    (hq : ∀ mi', Fr [27, 15, 16, 28, 29, 30, 31, 32] mi mi' → Cs (mi' 27) (iPour a d x n).2 → SL_17 mi' a (iPour a d x n).2 → Q (iPour a d x n).1 mi' ml z) : CI l (h + 5) m_Sc_pour [.ref 17, .int x, .int n] mi ml z Q := by
  have hB6 := ha.1
  have hR4 := ha.2.1
  unfold iPour at hq
  refine t_Sc_pour_17 mi ml z _ _ (c_hasBeck hl.1 hB6 ⟨fun c => ?_, fun c => ⟨fun c3 => ?_, fun c3 => ⟨fun c4 => ?_, fun c4 => ?_⟩⟩⟩)
  · rw [bI_0, decide_eq_false_iff_not] at c
    rw [if_neg (fun q => c q.1)] at hq
    exact hq mi (Fr.refl _ _) hc hs
  · rw [i32_lt0] at c3
    rw [if_neg (by omega)] at hq
    exact hq mi (Fr.refl _ _) hc hs
  · rw [i32_lt0] at c3
    rw [i32_le9] at c4
    rw [bI_0, Bool.not_eq_false, decide_eq_true_eq] at c
    rw [if_pos ⟨c, by omega, c4⟩] at hq
    have hn := nI_toNat (x := n) (by omega)
    have hn9 : n.toInt.toNat ≤ 9 := by omega
    obtain ⟨ex, hb⟩ := inB_nI (a := a) c
    generalize x.toInt.toNat = b at ex hb hq
    generalize n.toInt.toNat = k at hn hn9 hq
    subst ex hn
    refine t_Sc_flowOf_17 _ _ _ _ ?_
    have hin : vp_in (6 + nI b) 40 := in_addL (a := 6) (by omega) (by decide)
    rw [addL_cl 6 b (by omega), hc.2.1 b (by omega)]
    refine ⟨hin, hin, in_nI (by omega) (by decide), ?_⟩
    rw [cl_nI (by omega), up_ne _ _ _ (show 20 ≠ 27 by decide), hl.2.2.2.1 b hb]
    have hc' : Cs ((up mi 27 (6 + b) (nI k)) 27) (setF d b k) := by rw [up_self]; exact hc.sF (by omega) _
    have F1 := Fr_up mi 27 (6 + b) (nI k)
    generalize up mi 27 (6 + b) (nI k) = m1 at hc' F1 ⊢
    have hl1 : LnC m1 18 a := hl.fr (fun k hk => F1 _ (by simp; omega))
    have hs1 : SLp m1 28 29 30 31 32 (nB a) (nR a) (fun b' r' => ¬ b' = b) (lkD a (setF d b k)) (tkD a (setF d b k)) := by
      refine (hs.fr (F1 _ (by decide)) (F1 _ (by decide)) (F1 _ (by decide)) (F1 _ (by decide)) (F1 _ (by decide))).cong (fun b' r' _ _ hp => ⟨trivial, ?_, ?_⟩)
      · simp [lkD, W0, dG, dF, setF, hp]
      · simp [tkD, W0, dG, dF, setF, hp]
    have hg : dF (setF d b k) b = k := by simp [dF, setF]
    have hm : ∀ r, r < nR a → Ms m1 27 (nL a) (nT a) (lkD a (setF d b k)) (tkD a (setF d b k)) b r (nI (nM a b)) (m1 27 (16 + (4 * b + r))) := fun r hr => by
      have e1 : m1 27 (6 + b) = nI k := by rw [hc'.2.1 b (by omega), hg]
      have e2 : m1 24 r = nI (nNm a r) := hl1.2.2.2.2.2.1 r hr
      have e3 : m1 27 (16 + (4 * b + r)) = nI (dG d b r) := hc'.2.2.2 b r (by omega) (by omega)
      unfold Ms
      rw [e1, e2, e3]
      refine ⟨okW_wds (by omega) hn9 (ha.2.2.1 b hb).1 (by omega) (ha.2.2.2 r hr).1 (hd.2.2.2.1 b r), ?_, ?_⟩
      · unfold lkD W0; rw [hg]; rfl
      · unfold tkD W0; rw [hg]; rfl
    refine c_Sc_measureBeck_17 (hl1.ld ha) hb hm hs1 (fun m2 F2 h2 => hq m2 (fun q hq' => ?_) ?_ (h2.mono (fun b' r' _ _ _ => ?_)))
    · simp only [List.mem_cons, List.mem_nil_iff, or_false, not_or] at hq'
      rw [F2 q (by simp only [List.mem_cons, List.mem_nil_iff, or_false, not_or]; exact hq'.2), F1 q (by simpa using hq'.1)]
    · rw [F2 27 (by decide)]; exact hc'
    · by_cases q : b' = b
      · exact Or.inr q
      · exact Or.inl q
  · rw [i32_le9] at c4
    rw [if_neg (by omega)] at hq
    exact hq mi (Fr.refl _ _) hc hs
abbrev SL_33 (mi : TMi) (a : Ln) (d : Dt) : Prop := SLp mi 35 36 37 38 39 (nB a) (nR a) allP (lkD a d) (tkD a d)
theorem c_goInto_33 {l : Launch} {h : Nat} {mi : TMi} {ml : TMl} {z : Nat} {x y : Int32} {a : Ln} {d : Dt} {Q : Int32 → TMi → TMl → Nat → Prop} (ha : okLn a) (hd : okD a d) (hl : LnC mi 18 a) (hc : Cs (mi 34) d) (hs : SL_33 mi a d)
    (hq : ∀ mi', Fr [34] mi mi' → Cs (mi' 34) (iInto a d x y).2 → Q (iInto a d x y).1 mi' ml z) : CI l (h + 4) m_Sc_goInto [.ref 33, .int x, .int y] mi ml z Q := by
  have hB6 := ha.1
  have hR4 := ha.2.1
  have hw := hc.isW ha hd
  unfold iInto at hq
  refine t_Sc_goInto_33 mi ml z _ _ (c_hasBeck hl.1 hB6 ⟨fun c => ?_, fun c => c_hasRiver hl.2.1 hR4 ⟨fun c2 => ?_, fun c2 => ?_⟩⟩)
  · rw [bI_0, decide_eq_false_iff_not] at c
    rw [if_neg (fun q => c q.1)] at hq
    exact hq mi (Fr.refl _ _) hc
  · rw [bI_0, Bool.not_eq_false, decide_eq_true_eq] at c c2
    rw [if_pos ⟨c, c2⟩] at hq
    obtain ⟨ex, hb⟩ := inB_nI (a := a) c
    obtain ⟨ey, hr⟩ := inR_nI (a := a) c2
    generalize x.toInt.toNat = b at ex hb hq
    generalize y.toInt.toNat = r at ey hr hq
    subst ex ey
    have hin : vp_in (nI b) 40 := in_nI (by omega) (by decide)
    have h1 := isW_eq hw hR4 (show r < 4 by omega) hb
    unfold dInto at hq
    rw [cl_nI (by omega)]
    refine ⟨hin, fun c3 => ?_, fun c3 => ?_⟩
    · have e1 : ¬ dW d b = some r := fun q => by
        rw [q] at h1; apply c3; simpa using h1
      rw [if_neg e1] at hq
      refine c_Sc_bothWould_33 hB6 hR4 hs hb hr ⟨fun c4 => ?_, fun c4 => ?_⟩
      · rw [bI_0, Bool.not_eq_false] at c4
        rw [if_neg (by rw [c4]; decide)] at hq
        refine c_Sc_wouldAdmit_33 (lw := 40) (rm := dR d) rfl (by decide) hl.1 hB6 hR4 hs hw hb hr (rm_of hc ha hd hr).1 (rm_of hc ha hd hr).2 ⟨fun c5 => ?_, fun c5 => ?_⟩
        · rw [bI_0, Bool.not_eq_false] at c5
          rw [if_neg (by rw [c5]; decide)] at hq
          refine c_Sc_becksIn_33 (lw := 40) rfl (by decide) hl.1 hB6 ?_
          rw [isW_enc hw hR4 (show r < 4 by omega)]
          have h64 : enc (fun b => dW d b == some r) (nB a) < 64 := enc_64 (inn (dW d) r) hB6
          refine c_bitCount h64 (t_Sc_roomOf_33 _ _ _ _ ⟨in_addL (a := 12) (by omega) (by decide), ?_⟩)
          have hcn : pop6 (enc (fun b => dW d b == some r) (nB a)) = cnt (inn (dW d) r) (nB a) := pop_enc (inn (dW d) r) hB6
          have hcl := cnt_le (inn (dW d) r) (nB a)
          have hrm := rm_of hc ha hd hr
          rw [addL_cl 12 r (by omega), hrm.1, hcn, nI_leI (by omega) (by omega)]
          refine ⟨fun c6 => c_Sc_leastLiked_33 hl.1 hB6 hR4 hs hr h64 ?_, fun c6 => ?_⟩
          · rw [if_neg (by omega)] at hq
            have el : lst (fun b' => tb (enc (fun b => dW d b == some r) (nB a)) b') (fun b' => prO (tkD a d) b' r) (nB a) = lst (inn (dW d) r) (fun b' => prO (tkD a d) b' r) (nB a) := lst_enc (inn (dW d) r) _ (nB a)
            rw [el]
            cases e : lst (inn (dW d) r) (fun b' => prO (tkD a d) b' r) (nB a) with
            | none =>
              rw [e] at hq
              refine ⟨fun _ => ⟨hin, hq _ (Fr_up _ _ _ _) ?_⟩, fun q => absurd rfl q⟩
              rw [up_self]; exact hc.sW (by omega) (some r)
            | some m =>
              rw [e] at hq
              have hm := (lst_lt e).1
              refine ⟨fun q => absurd q (neg1_ne (by omega)), fun _ => ⟨in_nI (by omega) (by decide), hin, ?_⟩⟩
              have em : (oI (some m)).toNatClampNeg = m := cl_nI (by omega)
              rw [em]
              refine hq _ ((Fr_up _ _ _ _).step (Fr_up _ _ _ _)) ?_
              rw [up_self, up_self]; exact (hc.sW (by omega) none).sW (by omega) (some r)
          · rw [if_pos (by omega)] at hq
            refine ⟨hin, hq _ (Fr_up _ _ _ _) ?_⟩
            rw [up_self]; exact hc.sW (by omega) (some r)
        · rw [bI_0] at c5
          rw [if_pos c5] at hq
          exact hq mi (Fr.refl _ _) hc
      · rw [bI_0] at c4
        rw [if_pos c4] at hq
        exact hq mi (Fr.refl _ _) hc
    · have e1 : dW d b = some r := by rw [c3] at h1; simpa using h1
      rw [if_pos e1] at hq
      exact hq mi (Fr.refl _ _) hc
  · rw [bI_0, decide_eq_false_iff_not] at c2
    rw [if_neg (fun q => c2 q.2)] at hq
    exact hq mi (Fr.refl _ _) hc
theorem c_goOut_33 {l : Launch} {h : Nat} {mi : TMi} {ml : TMl} {z : Nat} {x : Int32} {a : Ln} {d : Dt} {Q : Int32 → TMi → TMl → Nat → Prop} (ha : okLn a) (hd : okD a d) (hl : LnC mi 18 a) (hc : Cs (mi 34) d)
    (hq : ∀ mi', Fr [34] mi mi' → Cs (mi' 34) (iOut a d x).2 → Q (iOut a d x).1 mi' ml z) : CI l (h + 2) m_Sc_goOut [.ref 33, .int x] mi ml z Q := by
  have hB6 := ha.1
  have hR4 := ha.2.1
  have hw := hc.isW ha hd
  unfold iOut at hq
  refine t_Sc_goOut_33 mi ml z _ (c_hasBeck hl.1 hB6 ⟨fun c => ?_, fun c => ?_⟩)
  · rw [bI_0, Bool.not_eq_false, decide_eq_true_eq] at c
    rw [if_pos c] at hq
    obtain ⟨ex, hb⟩ := inB_nI (a := a) c
    generalize x.toInt.toNat = b at ex hb hq
    subst ex
    have hin : vp_in (nI b) 40 := in_nI (by omega) (by decide)
    rw [cl_nI (by omega), (hw b hb).1]
    unfold dOut at hq
    cases e : dW d b with
    | none =>
      rw [e] at hq
      exact ⟨hin, fun q => absurd rfl q, fun _ => hq mi (Fr.refl _ _) hc⟩
    | some r =>
      rw [e] at hq
      have hr := (hw b hb).2 r e
      refine ⟨hin, fun _ => ⟨hin, hq _ (Fr_up _ _ _ _) ?_⟩, fun q => absurd q (neg1_ne (by omega))⟩
      rw [up_self]; exact hc.sW (by omega) none
  · rw [bI_0, decide_eq_false_iff_not] at c
    rw [if_neg c] at hq
    exact hq mi (Fr.refl _ _) hc
theorem c_give_33 {l : Launch} {h : Nat} {mi : TMi} {ml : TMl} {z : Nat} {x y n : Int32} {a : Ln} {d : Dt} {Q : Int32 → TMi → TMl → Nat → Prop} (ha : okLn a) (hd : okD a d) (hl : LnC mi 18 a) (hc : Cs (mi 34) d) (hs : SL_33 mi a d)
    (hq : ∀ mi', Fr [34, 15, 16, 35, 36, 37, 38, 39] mi mi' → Cs (mi' 34) (iGive a d y x n).2 → SL_33 mi' a (iGive a d y x n).2 → Q (iGive a d y x n).1 mi' ml z) : CI l (h + 4) m_Sc_give [.ref 33, .int y, .int x, .int n] mi ml z Q := by
  have hB6 := ha.1
  have hR4 := ha.2.1
  unfold iGive at hq
  refine t_Sc_give_33 mi ml z _ _ _ (c_hasBeck hl.1 hB6 ⟨fun c => ?_, fun c => c_hasRiver hl.2.1 hR4 ⟨fun c2 => ?_, fun c2 => ⟨fun c3 => ?_, fun c3 => ⟨fun c4 => ?_, fun c4 => ?_⟩⟩⟩⟩)
  · rw [bI_0, decide_eq_false_iff_not] at c
    rw [if_neg (fun q => c q.1)] at hq
    exact hq mi (Fr.refl _ _) hc hs
  · rw [bI_0, decide_eq_false_iff_not] at c2
    rw [if_neg (fun q => c2 q.2.1)] at hq
    exact hq mi (Fr.refl _ _) hc hs
  · rw [i32_lt1] at c3
    rw [if_neg (by omega)] at hq
    exact hq mi (Fr.refl _ _) hc hs
  · rw [i32_lt1] at c3
    rw [i32_le9] at c4
    rw [bI_0, Bool.not_eq_false, decide_eq_true_eq] at c c2
    rw [if_pos ⟨c, c2, by omega, c4⟩] at hq
    have hn := nI_toNat (x := n) (by omega)
    have hn9 : n.toInt.toNat ≤ 9 := by omega
    obtain ⟨ex, hb⟩ := inB_nI (a := a) c
    obtain ⟨ey, hr⟩ := inR_nI (a := a) c2
    generalize x.toInt.toNat = b at ex hb hq
    generalize y.toInt.toNat = r at ey hr hq
    generalize n.toInt.toNat = k at hn hn9 hq
    subst ex ey hn
    have hg9 := hd.2.2.2.1 b r
    unfold dGive at hq
    refine t_Sc_giftsOf_33 _ _ _ _ _ (t_B_pair _ _ _ _ _ ?_)
    rw [mul4, addL_cl 16 (4 * b + r) (by omega), hc.2.2.2 b r (by omega) (by omega), nI_add]
    refine ⟨in_addL (a := 16) (by omega) (by decide), fun c5 => t_B_pair _ _ _ _ _ ?_, fun c5 => ?_⟩
    · rw [mul4, addL_cl 16 (4 * b + r) (by omega)]
      have h9 : dG d b r + k ≤ 9 := (nI_leI (a := dG d b r + k) (b := 9) (by omega) (by decide)).mp c5
      rw [if_pos h9] at hq
      refine ⟨in_addL (a := 16) (by omega) (by decide), in_nI (by omega) (by decide), ?_⟩
      rw [cl_nI (by omega), up_ne _ _ _ (show 20 ≠ 34 by decide), hl.2.2.2.1 b hb]
      have hc' : Cs ((up mi 34 (16 + (4 * b + r)) (nI (dG d b r + k))) 34) (setG d b r (dG d b r + k)) := by rw [up_self]; exact hc.sG (by omega) (by omega) _
      have F1 := Fr_up mi 34 (16 + (4 * b + r)) (nI (dG d b r + k))
      generalize up mi 34 (16 + (4 * b + r)) (nI (dG d b r + k)) = m1 at hc' F1 ⊢
      have hl1 : LnC m1 18 a := hl.fr (fun k hk => F1 _ (by simp; omega))
      have hs1 : SLp m1 35 36 37 38 39 (nB a) (nR a) (fun b' r' => ¬ (b' = b ∧ r' = r)) (lkD a (setG d b r (dG d b r + k))) (tkD a (setG d b r (dG d b r + k))) := by
        refine (hs.fr (F1 _ (by decide)) (F1 _ (by decide)) (F1 _ (by decide)) (F1 _ (by decide)) (F1 _ (by decide))).cong (fun b' r' _ _ hp => ⟨trivial, ?_, ?_⟩)
        · simp [lkD, W0, dG, dF, setG, hp]
        · simp [tkD, W0, dG, dF, setG, hp]
      have hg : dG (setG d b r (dG d b r + k)) b r = dG d b r + k := by simp [dG, setG]
      have hm : Ms m1 34 (nL a) (nT a) (lkD a (setG d b r (dG d b r + k))) (tkD a (setG d b r (dG d b r + k))) b r (nI (nM a b)) (nI (dG d b r + k)) := by
        have e1 : m1 34 (6 + b) = nI (dF d b) := hc'.2.1 b (by omega)
        have e2 : m1 24 r = nI (nNm a r) := hl1.2.2.2.2.2.1 r hr
        unfold Ms
        rw [e1, e2]
        refine ⟨okW_wds (by omega) (hd.2.1 b).1 (ha.2.2.1 b hb).1 (by omega) (ha.2.2.2 r hr).1 (by omega), ?_, ?_⟩
        · unfold lkD W0; rw [hg]; rfl
        · unfold tkD W0; rw [hg]; rfl
      refine c_Sc_measure_33 (hl1.ld ha) hb hr hm hs1 (fun m2 F2 h2 => hq m2 (fun q hq' => ?_) ?_ (h2.mono (fun b' r' _ _ _ => ?_)))
      · simp only [List.mem_cons, List.mem_nil_iff, or_false, not_or] at hq'
        rw [F2 q (by simp only [List.mem_cons, List.mem_nil_iff, or_false, not_or]; exact hq'.2), F1 q (by simpa using hq'.1)]
      · rw [F2 34 (by decide)]; exact hc'
      · by_cases q : b' = b ∧ r' = r
        · exact Or.inr q
        · exact Or.inl q
    · have h9 : ¬ dG d b r + k ≤ 9 := fun q => c5 ((nI_leI (a := dG d b r + k) (b := 9) (by omega) (by decide)).mpr q)
      rw [if_neg h9] at hq
      exact hq mi (Fr.refl _ _) hc hs
  · rw [i32_le9] at c4
    rw [if_neg (by omega)] at hq
    exact hq mi (Fr.refl _ _) hc hs
theorem c_pour_33 {l : Launch} {h : Nat} {mi : TMi} {ml : TMl} {z : Nat} {x n : Int32} {a : Ln} {d : Dt} {Q : Int32 → TMi → TMl → Nat → Prop} (ha : okLn a) (hd : okD a d) (hl : LnC mi 18 a) (hc : Cs (mi 34) d) (hs : SL_33 mi a d)
    (hq : ∀ mi', Fr [34, 15, 16, 35, 36, 37, 38, 39] mi mi' → Cs (mi' 34) (iPour a d x n).2 → SL_33 mi' a (iPour a d x n).2 → Q (iPour a d x n).1 mi' ml z) : CI l (h + 5) m_Sc_pour [.ref 33, .int x, .int n] mi ml z Q := by
  have hB6 := ha.1
  have hR4 := ha.2.1
  unfold iPour at hq
  refine t_Sc_pour_33 mi ml z _ _ (c_hasBeck hl.1 hB6 ⟨fun c => ?_, fun c => ⟨fun c3 => ?_, fun c3 => ⟨fun c4 => ?_, fun c4 => ?_⟩⟩⟩)
  · rw [bI_0, decide_eq_false_iff_not] at c
    rw [if_neg (fun q => c q.1)] at hq
    exact hq mi (Fr.refl _ _) hc hs
  · rw [i32_lt0] at c3
    rw [if_neg (by omega)] at hq
    exact hq mi (Fr.refl _ _) hc hs
  · rw [i32_lt0] at c3
    rw [i32_le9] at c4
    rw [bI_0, Bool.not_eq_false, decide_eq_true_eq] at c
    rw [if_pos ⟨c, by omega, c4⟩] at hq
    have hn := nI_toNat (x := n) (by omega)
    have hn9 : n.toInt.toNat ≤ 9 := by omega
    obtain ⟨ex, hb⟩ := inB_nI (a := a) c
    generalize x.toInt.toNat = b at ex hb hq
    generalize n.toInt.toNat = k at hn hn9 hq
    subst ex hn
    refine t_Sc_flowOf_33 _ _ _ _ ?_
    have hin : vp_in (6 + nI b) 40 := in_addL (a := 6) (by omega) (by decide)
    rw [addL_cl 6 b (by omega), hc.2.1 b (by omega)]
    refine ⟨hin, hin, in_nI (by omega) (by decide), ?_⟩
    rw [cl_nI (by omega), up_ne _ _ _ (show 20 ≠ 34 by decide), hl.2.2.2.1 b hb]
    have hc' : Cs ((up mi 34 (6 + b) (nI k)) 34) (setF d b k) := by rw [up_self]; exact hc.sF (by omega) _
    have F1 := Fr_up mi 34 (6 + b) (nI k)
    generalize up mi 34 (6 + b) (nI k) = m1 at hc' F1 ⊢
    have hl1 : LnC m1 18 a := hl.fr (fun k hk => F1 _ (by simp; omega))
    have hs1 : SLp m1 35 36 37 38 39 (nB a) (nR a) (fun b' r' => ¬ b' = b) (lkD a (setF d b k)) (tkD a (setF d b k)) := by
      refine (hs.fr (F1 _ (by decide)) (F1 _ (by decide)) (F1 _ (by decide)) (F1 _ (by decide)) (F1 _ (by decide))).cong (fun b' r' _ _ hp => ⟨trivial, ?_, ?_⟩)
      · simp [lkD, W0, dG, dF, setF, hp]
      · simp [tkD, W0, dG, dF, setF, hp]
    have hg : dF (setF d b k) b = k := by simp [dF, setF]
    have hm : ∀ r, r < nR a → Ms m1 34 (nL a) (nT a) (lkD a (setF d b k)) (tkD a (setF d b k)) b r (nI (nM a b)) (m1 34 (16 + (4 * b + r))) := fun r hr => by
      have e1 : m1 34 (6 + b) = nI k := by rw [hc'.2.1 b (by omega), hg]
      have e2 : m1 24 r = nI (nNm a r) := hl1.2.2.2.2.2.1 r hr
      have e3 : m1 34 (16 + (4 * b + r)) = nI (dG d b r) := hc'.2.2.2 b r (by omega) (by omega)
      unfold Ms
      rw [e1, e2, e3]
      refine ⟨okW_wds (by omega) hn9 (ha.2.2.1 b hb).1 (by omega) (ha.2.2.2 r hr).1 (hd.2.2.2.1 b r), ?_, ?_⟩
      · unfold lkD W0; rw [hg]; rfl
      · unfold tkD W0; rw [hg]; rfl
    refine c_Sc_measureBeck_33 (hl1.ld ha) hb hm hs1 (fun m2 F2 h2 => hq m2 (fun q hq' => ?_) ?_ (h2.mono (fun b' r' _ _ _ => ?_)))
    · simp only [List.mem_cons, List.mem_nil_iff, or_false, not_or] at hq'
      rw [F2 q (by simp only [List.mem_cons, List.mem_nil_iff, or_false, not_or]; exact hq'.2), F1 q (by simpa using hq'.1)]
    · rw [F2 34 (by decide)]; exact hc'
    · by_cases q : b' = b
      · exact Or.inr q
      · exact Or.inl q
  · rw [i32_le9] at c4
    rw [if_neg (by omega)] at hq
    exact hq mi (Fr.refl _ _) hc hs
