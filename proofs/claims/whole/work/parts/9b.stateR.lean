/-! ===== where the reference's reader stands ===== -/
def RP (mi : TMi) (tp : Nat → Nat) (n : Nat) (s : PS) : Prop := TkR mi tp n ∧ okP n s ∧ mi 119 7 = nI (zE s) ∧ mi 119 9 = nI (rk (zK s)) ∧ mi 119 6 = nI (zQ s) ∧ (zK s = 21 → mi 119 10 = nI (zV s)) ∧ mi 119 11 = nI (zF s) ∧ (¬ zF s = 0 → mi 119 12 = nI (zX s))
def FT (mi mi' : TMi) : Prop := (∀ a, a ≠ 119 → mi' a = mi a) ∧ ∀ s, s < 6 ∨ s = 8 ∨ 13 ≤ s → mi' 119 s = mi 119 s
def FP (mi mi' : TMi) : Prop := (∀ a, a ≠ 119 → a ≠ 123 → mi' a = mi a) ∧ ∀ s, s < 6 ∨ s = 8 ∨ 13 ≤ s → mi' 119 s = mi 119 s
theorem FT.refl (mi : TMi) : FT mi mi := ⟨fun _ _ => rfl, fun _ _ => rfl⟩
theorem FP.refl (mi : TMi) : FP mi mi := ⟨fun _ _ _ => rfl, fun _ _ => rfl⟩
theorem FT.p {mi mi' : TMi} (h : FT mi mi') : FP mi mi' := ⟨fun a h1 _ => h.1 a h1, h.2⟩
theorem FP.trans {a b c : TMi} (h : FP a b) (k : FP b c) : FP a c := ⟨fun x h1 h2 => by rw [k.1 x h1 h2, h.1 x h1 h2], fun s hs => by rw [k.2 s hs, h.2 s hs]⟩
theorem FT.trans {a b c : TMi} (h : FT a b) (k : FT b c) : FT a c := ⟨fun x h1 => by rw [k.1 x h1, h.1 x h1], fun s hs => by rw [k.2 s hs, h.2 s hs]⟩
theorem FT.f {mi mi' : TMi} (h : FT mi mi') : mi' 123 = mi 123 := h.1 123 (by decide)
theorem FP_up (mi : TMi) (k : Nat) (x : Int32) : FP mi (up mi 123 k x) := ⟨fun a _ h => up_ne _ _ _ h, fun s _ => by rw [up_ne _ _ _ (by decide)]⟩
theorem RP.fr {mi mi' : TMi} {tp : Nat → Nat} {n : Nat} {s : PS} (h : RP mi tp n s) (e1 : mi' 119 = mi 119) (e2 : mi' 122 = mi 122) : RP mi' tp n s := by
  unfold RP TkR at h ⊢
  rw [e1, e2]
  exact h
theorem RP.up {mi : TMi} {tp : Nat → Nat} {n : Nat} {s : PS} (h : RP mi tp n s) (k : Nat) (x : Int32) : RP (up mi 123 k x) tp n s := h.fr (up_ne _ _ _ (by decide)) (up_ne _ _ _ (by decide))
theorem TkR.b {mi : TMi} {tp : Nat → Nat} {n : Nat} (h : TkR mi tp n) : ∀ j, j < n → tp j < 256 := fun j hj => (h.2.2 j hj).2
theorem c_tokR {l : Launch} {h : Nat} {mi : TMi} {ml : TMl} {z p x n : Nat} {tp : Nat → Nat} {Q : TMi → TMl → Nat → Prop} (hT : TkR mi tp n) (h7 : mi 119 7 = nI p) (hp : p ≤ n) (hx : x ≤ n) (h11 : mi 119 11 = 0) (hq : ∀ mi', FT mi mi' → RP mi' tp n (zTok tp n p x) → Q mi' ml z) : CV l (h + 6) m_R_next [.ref 119] mi ml z Q := by
  refine c_R_next (h := h) hT h7 hp (fun mi' F1 F2 F3 F4 F5 F6 => hq mi' ⟨F1, fun s hs => F2 s (by omega) (by omega) (by omega) (by omega)⟩ ⟨?_, zTok_ok hT.b hp hx, F3, F4, F5, F6, ?_, fun c => absurd rfl c⟩)
  · exact ⟨by rw [F2 8 (by decide) (by decide) (by decide) (by decide)]; exact hT.1, hT.2.1, fun j hj => by rw [F1 122 (by decide)]; exact hT.2.2 j hj⟩
  · rw [F2 11 (by decide) (by decide) (by decide) (by decide)]; exact h11
theorem c_R_adv {l : Launch} {h : Nat} {mi : TMi} {ml : TMl} {z n : Nat} {tp : Nat → Nat} {s : PS} {Q : TMi → TMl → Nat → Prop} (hP : RP mi tp n s) (h0 : zF s = 0) (hq : ∀ mi', FT mi mi' → RP mi' tp n (zAdv tp n s) → Q mi' ml z) : CV l (h + 6) m_R_next [.ref 119] mi ml z Q := by
  obtain ⟨p1, p2, p3, p4, p5, p6, p7, p8⟩ := hP
  unfold zAdv at hq
  rw [if_pos h0] at hq
  rw [h0] at p7
  exact c_tokR p1 p3 p2.1 p2.2.2.2.2.2.2.2 p7 hq
theorem zF_r {mi : TMi} {tp : Nat → Nat} {n : Nat} {s : PS} (hP : RP mi tp n s) : mi 119 11 = 0 ↔ zF s = 0 := by
  obtain ⟨p1, p2, p3, p4, p5, p6, p7, p8⟩ := hP
  have f4 := p2.2.2.2.2.2.2.1
  rw [p7]
  exact nI_eq (a := zF s) (b := 0) (by omega) (by decide)
theorem rk_b : ∀ j, j < 94 → rk j < 100 := by decide +kernel
theorem zK_r {mi : TMi} {tp : Nat → Nat} {n k c : Nat} {s : PS} (hP : RP mi tp n s) (hc : c < 1000) (hk : ∀ j, j < 94 → (rk j = c ↔ j = k)) : mi 119 9 = nI c ↔ zK s = k := by
  obtain ⟨p1, p2, p3, p4, p5, p6, p7, p8⟩ := hP
  have f4 := p2.2.2.1
  have f5 := rk_b _ f4
  rw [p4, nI_eq (by omega) (by omega)]
  exact hk _ f4
theorem c_R_is {l : Launch} {h : Nat} {mi : TMi} {ml : TMl} {z n k c : Nat} {tp : Nat → Nat} {s : PS} {Q : Int32 → TMi → TMl → Nat → Prop} (hP : RP mi tp n s) (hc : c < 1000) (hk : ∀ j, j < 94 → (rk j = c ↔ j = k)) (hq1 : zSees k s → Q 1 mi ml z) (hq0 : ¬ zSees k s → Q 0 mi ml z) : CI l (h + 1) m_R_is [.ref 119, .int (nI c)] mi ml z Q := by
  refine t_R_is mi ml z _ ?_
  rw [zF_r hP, zK_r hP hc hk]
  exact ⟨fun c => hq0 (fun q => c q.1), fun c => ⟨fun c2 => hq0 (fun q => c2 q.2), fun c2 => hq1 ⟨c, c2⟩⟩⟩
theorem rk25 : ∀ j, j < 94 → (rk j = 25 ↔ j = 23) := by decide +kernel
theorem c_R_fails {l : Launch} {h : Nat} {mi : TMi} {ml : TMl} {z n w : Nat} {tp : Nat → Nat} {s : PS} {Q : TMi → TMl → Nat → Prop} (hP : RP mi tp n s) (hw : w ≤ 4) (hw0 : 0 < w) (hq : ∀ mi', FT mi mi' → RP mi' tp n (zRf w s) → Q mi' ml z) : CV l (h + 1) m_R_fails [.ref 119, .int (nI w)] mi ml z Q := by
  refine t_R_fails mi ml z _ ?_
  rw [zF_r hP, show (mi 119 9 = 25) ↔ zK s = 23 from zK_r hP (c := 25) (by decide) rk25]
  obtain ⟨p1, p2, p3, p4, p5, p6, p7, p8⟩ := id hP
  have ok := zRf_ok hw p2
  by_cases c : zF s = 0
  · refine ⟨fun _ => ?_, fun k => absurd c k⟩
    have fin : ∀ v : Nat, 0 < v → zRf w s = (zK s, zV s, zQ s, zE s, v, zQ s) → Q (up (up mi 119 11 (nI v)) 119 12 ((up mi 119 11 (nI v)) 119 6)) ml z := fun v hv ev => by
      rw [ev] at hq ok
      refine hq _ ⟨fun a ha => ?_, fun a ha => ?_⟩ ⟨?_, ok, ?_, ?_, ?_, fun e => ?_, ?_, fun _ => ?_⟩
      · rw [up_ne _ _ _ ha, up_ne _ _ _ ha]
      · rw [up_nk _ _ _ (by omega), up_nk _ _ _ (by omega)]
      · exact ⟨by rw [up_nk _ _ _ (by decide), up_nk _ _ _ (by decide)]; exact p1.1, p1.2.1, fun j hj => by rw [up_ne _ _ _ (by decide), up_ne _ _ _ (by decide)]; exact p1.2.2 j hj⟩
      · rw [up_nk _ _ _ (by decide), up_nk _ _ _ (by decide)]; exact p3
      · rw [up_nk _ _ _ (by decide), up_nk _ _ _ (by decide)]; exact p4
      · rw [up_nk _ _ _ (by decide), up_nk _ _ _ (by decide)]; exact p5
      · rw [up_nk _ _ _ (by decide), up_nk _ _ _ (by decide)]; exact p6 e
      · rw [up_nk _ _ _ (by decide), up_at]; rfl
      · rw [up_at, up_nk _ _ _ (by decide), p5]; rfl
    refine ⟨fun c2 => fin w hw0 ?_, fun c2 => fin 1 (by decide) ?_⟩
    · unfold zRf; rw [if_pos c, if_neg c2]
    · unfold zRf; rw [if_pos c, if_pos c2]
  · refine ⟨fun k => absurd k c, fun _ => ?_⟩
    unfold zRf at hq
    rw [if_neg c] at hq
    exact hq mi (FT.refl _) hP
theorem c_R_eats {l : Launch} {h : Nat} {mi : TMi} {ml : TMl} {z n k c : Nat} {tp : Nat → Nat} {s : PS} {Q : Int32 → TMi → TMl → Nat → Prop} (hP : RP mi tp n s) (hc : c < 1000) (hk : ∀ j, j < 94 → (rk j = c ↔ j = k)) (hq1 : zSees k s → ∀ mi', FT mi mi' → RP mi' tp n (zAdv tp n s) → Q 1 mi' ml z) (hq0 : ¬ zSees k s → Q 0 mi ml z) : CI l (h + 7) m_R_eats [.ref 119, .int (nI c)] mi ml z Q :=
  t_R_eats mi ml z _ (c_R_is hP hc hk (fun q => ⟨fun _ => c_R_adv hP q.1 (hq1 q), fun e => absurd e (by decide)⟩) (fun q => ⟨fun e => absurd rfl e, fun _ => hq0 q⟩))
/-- a token that must stand there -/
theorem c_eatsF {l : Launch} {h : Nat} {mi : TMi} {ml : TMl} {z n k c : Nat} {tp : Nat → Nat} {s : PS} {K : TMi → TMl → Nat → Prop} (hP : RP mi tp n s) (hc : c < 1000) (hk : ∀ j, j < 94 → (rk j = c ↔ j = k)) (hq : ∀ mi', FT mi mi' → RP mi' tp n (zXp tp n k s) → K mi' ml z) : CI l (h + 7) m_R_eats [.ref 119, .int (nI c)] mi ml z (fun x1 mi1 ml1 z1 => ((¬ x1 = 0 → K mi1 ml1 z1) ∧ (x1 = 0 → CV l (h + 7) m_R_fails [.ref 119, .int 2] mi1 ml1 z1 (fun a b c => K a b c)))) := by
  unfold zXp at hq
  refine c_R_eats hP hc hk (fun q mi' F R => ⟨fun _ => ?_, fun e => absurd e (by decide)⟩) (fun q => ⟨fun e => absurd rfl e, fun _ => ?_⟩)
  · rw [if_pos q] at hq; exact hq mi' F R
  · rw [if_neg q] at hq
    exact c_R_fails hP (w := 2) (by decide) (by decide) hq
theorem rk23 : ∀ j, j < 94 → (rk j = 23 ↔ j = 21) := by decide +kernel
theorem nI_64 {v : Nat} (hv : v < 2 ^ 31) : ((nI v).toInt64).toInt = v := by rw [Int32.toInt_toInt64, nI_toInt hv]
theorem c_R_takesN {l : Launch} {h : Nat} {mi : TMi} {ml : TMl} {z n k : Nat} {tp : Nat → Nat} {s : PS} {a2 : Int32} {Q : Int32 → TMi → TMl → Nat → Prop} (hP : RP mi tp n s) (ha : a2.toInt = (k : Int) - 1) (hq : ∀ x mi', FT mi mi' → RP mi' tp n (zNum tp n k s).1 → (zF (zNum tp n k s).1 = 0 → x = nI (zNum tp n k s).2) → Q x mi' ml z) : CI l (h + 7) m_R_takesN [.ref 119, .int 0, .int a2] mi ml z Q := by
  have bad : ∀ w, w ≤ 4 → 0 < w → zNum tp n k s = (zRf w s, 0) → CV l (h + 6) m_R_fails [.ref 119, .int (nI w)] mi ml z (fun mi7 ml7 z7 => ((¬ (mi7 119 11) = 0 → Q (mi7 119 10) mi7 ml7 z7) ∧ ((mi7 119 11) = 0 → CV l (h + 6) m_R_next [.ref 119] mi7 ml7 z7 (fun mi9 ml9 z9 => Q (mi7 119 10) mi9 ml9 z9)))) := fun w h4 h0 e => by
    rw [e] at hq
    refine c_R_fails hP h4 h0 (fun mi' F R => ?_)
    rw [zF_r R]
    exact ⟨fun _ => hq _ mi' F R (fun q => absurd q (zRf_n h0)), fun q => absurd q (zRf_n h0)⟩
  refine t_R_takesN mi ml z _ _ (c_R_is hP (c := 23) (by decide) rk23 (fun q => ⟨fun _ => ?_, fun e => absurd e (by decide)⟩) (fun q => ⟨fun e => absurd rfl e, fun _ => ?_⟩))
  · have hv := hP.2.1.2.2.2.2.2.1
    refine c_R_within ?_
    rw [hP.2.2.2.2.2.1 q.2, nI_64 (by omega), Int32.toInt_toInt64 a2, ha, show ((0 : Int32).toInt64).toInt = 0 by decide, bI_0]
    refine ⟨fun c => ?_, fun c => bad 3 (by decide) (by decide) ?_⟩
    · rw [Bool.not_eq_false] at c
      have c := of_decide_eq_true c
      have hlt : zV s < k := by omega
      have e : zNum tp n k s = (zAdv tp n s, zV s) := by unfold zNum; rw [if_pos q, if_pos hlt]
      rw [e] at hq
      rw [zF_r hP]
      exact ⟨fun c => absurd q.1 c, fun _ => c_R_adv hP q.1 (fun mi' F R => hq _ mi' F R (fun _ => rfl))⟩
    · have c := of_decide_eq_false c
      unfold zNum; rw [if_pos q, if_neg (by omega)]
  · exact bad 2 (by decide) (by decide) (by unfold zNum; rw [if_neg q])
