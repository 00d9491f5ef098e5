/-! ===== the class's match: a beck comes in ===== -/
def askA (A : Nat → Nat → Bool) (b r : Nat) : Nat → Nat → Bool := fun x y => A x y || (decide (x = b) && decide (y = r))
theorem MaS.ask {mi : TMi} {B n b r : Nat} {wo : Nat → Option Nat} {A : Nat → Nat → Bool} (h : MaS mi B n wo A) (hb : b < 6) (hn : n ≤ 6) (hr : r < n) : MaS (up mi 59 b (mi 59 b ||| ((1 : Int32) <<< (nI r &&& 31)))) B n wo (askA A b r) := by
  obtain ⟨h1, h2, h3⟩ := h
  refine ⟨fun x hx => ?_, fun x hx => ?_, fun x hx => ?_⟩
  · rw [up_ne _ _ _ (by decide)]; exact h1 x hx
  · rw [up_ne _ _ _ (by decide), up_ne _ _ _ (by decide)]; exact h2 x hx
  · by_cases q : x = b
    · subst q
      rw [up_at, h3 x hx, enc_set hn hr]
      congr 1
      exact enc_congr (fun y _ => by simp [askA])
    · rw [up_nk _ _ _ q, h3 x hx]
      congr 1
      exact enc_congr (fun y _ => by simp [askA, q])
theorem SLp.f5 {mi mi' : TMi} {lk tk bo ro mu B R : Nat} {P : Nat → Nat → Prop} {L T : Nat → Nat → Int} (h : SLp mi lk tk bo ro mu B R P L T) (F : Fr [56, 57, 58, 59] mi mi') (e : lk < 56 ∧ tk < 56 ∧ bo < 56 ∧ ro < 56 ∧ mu < 56) : SLp mi' lk tk bo ro mu B R P L T := h.fr (F _ (by simp; omega)) (F _ (by simp; omega)) (F _ (by simp; omega)) (F _ (by simp; omega)) (F _ (by simp; omega))
theorem c_Ma_admit_17 {l : Launch} {h : Nat} {mi : TMi} {ml : TMl} {z : Nat} {B R b r : Nat} {L T : Nat → Nat → Int} {rm : Nat → Nat} {wo : Nat → Option Nat} {A : Nat → Nat → Bool} {Q : Int32 → TMi → TMl → Nat → Prop} (hB : mi 18 0 = nI B) (hB6 : B ≤ 6) (hR4 : R ≤ 4) (hl : SLp mi 28 29 30 31 32 B R allP L T) (hs : MaS mi B 4 wo A) (hb : b < B) (hr : r < R) (hn : wo b = none) (hrm : mi 27 (12 + r) = nI (rm r)) (hrm6 : rm r < 100)
    (hq1 : cnt (inn (fun i => if i = b then some r else wo i) r) B ≤ rm r → ∀ mi', Fr [56, 57, 58, 59] mi mi' → MaS mi' B 4 (fun i => if i = b then some r else wo i) (askA A b r) → Q (-1) mi' ml z)
    (hq2 : ¬ cnt (inn (fun i => if i = b then some r else wo i) r) B ≤ rm r → ∀ o mi', lst (inn (fun i => if i = b then some r else wo i) r) (fun b' => prO T b' r) B = some o → Fr [56, 57, 58, 59] mi mi' → MaS mi' B 4 (fun i => if i = o then none else if i = b then some r else wo i) (askA A b r) → Q (nI o) mi' ml z) : CI l (h + 2) m_Ma_admit [.ref 55, .ref 17, .int (nI b), .int (nI r)] mi ml z Q := by
  have hin : vp_in (nI b) 6 := in_nI (by omega) (by decide)
  have hin4 : vp_in (nI r) 4 := in_nI (by omega) (by decide)
  refine t_Ma_admit_17 mi ml z _ _ ⟨hin, hin, ?_⟩
  rw [cl_nI (show b < 2 ^ 31 by omega), cl_nI (show r < 2 ^ 31 by omega)]
  have F1 : Fr [56, 57, 58, 59] mi (up mi 59 b (mi 59 b ||| ((1 : Int32) <<< (nI r &&& 31)))) := (Fr_up _ _ _ _).weak (by simp)
  have hs1 := hs.ask (b := b) (r := r) (by omega) (by decide) (by omega)
  generalize up mi 59 b (mi 59 b ||| ((1 : Int32) <<< (nI r &&& 31))) = m1 at F1 hs1 ⊢
  refine c_Ma_comeIn hB6 hs1 hb (by omega) hn (fun m2 F2 hs2 => ⟨hin4, t_Sc_roomOf_17 _ _ _ _ ⟨in_addL (a := 12) (by omega) (by decide), ?_⟩⟩)
  have F : Fr [56, 57, 58, 59] mi m2 := F1.step (F2.weak (by simp))
  have hcl := cnt_le (inn (fun i => if i = b then some r else wo i) r) B
  rw [addL_cl 12 r (by omega), F 27 (by decide), hrm, (hs2.2.1 r (by omega)).2, (hs2.2.1 r (by omega)).1, nI_ltI (by omega) (by omega)]
  refine ⟨fun c => ⟨hin4, c_Sc_leastLiked_17 (by rw [F 18 (by decide)]; exact hB) hB6 hR4 (hl.f5 F (by decide)) hr (enc_64 _ hB6) ?_⟩, fun c => hq1 (by omega) m2 F hs2⟩
  rw [lst_enc]
  obtain ⟨o, ho⟩ := lst_some (p := inn (fun i => if i = b then some r else wo i) r) (f := fun b' => prO T b' r) (B := B) (by omega)
  have ho1 := lst_lt ho
  rw [ho]
  refine ⟨fun q => absurd q (neg1_ne (by omega)), fun _ => c_Ma_goOff hB6 hs2 ho1.1 (by omega) (by simpa [inn] using ho1.2) (fun m3 F3 hs3 => hq2 (by omega) o m3 ho (F.step (F3.weak (by simp))) hs3)⟩
theorem c_Ma_admit_33 {l : Launch} {h : Nat} {mi : TMi} {ml : TMl} {z : Nat} {B R b r : Nat} {L T : Nat → Nat → Int} {rm : Nat → Nat} {wo : Nat → Option Nat} {A : Nat → Nat → Bool} {Q : Int32 → TMi → TMl → Nat → Prop} (hB : mi 18 0 = nI B) (hB6 : B ≤ 6) (hR4 : R ≤ 4) (hl : SLp mi 35 36 37 38 39 B R allP L T) (hs : MaS mi B 4 wo A) (hb : b < B) (hr : r < R) (hn : wo b = none) (hrm : mi 34 (12 + r) = nI (rm r)) (hrm6 : rm r < 100)
    (hq1 : cnt (inn (fun i => if i = b then some r else wo i) r) B ≤ rm r → ∀ mi', Fr [56, 57, 58, 59] mi mi' → MaS mi' B 4 (fun i => if i = b then some r else wo i) (askA A b r) → Q (-1) mi' ml z)
    (hq2 : ¬ cnt (inn (fun i => if i = b then some r else wo i) r) B ≤ rm r → ∀ o mi', lst (inn (fun i => if i = b then some r else wo i) r) (fun b' => prO T b' r) B = some o → Fr [56, 57, 58, 59] mi mi' → MaS mi' B 4 (fun i => if i = o then none else if i = b then some r else wo i) (askA A b r) → Q (nI o) mi' ml z) : CI l (h + 2) m_Ma_admit [.ref 55, .ref 33, .int (nI b), .int (nI r)] mi ml z Q := by
  have hin : vp_in (nI b) 6 := in_nI (by omega) (by decide)
  have hin4 : vp_in (nI r) 4 := in_nI (by omega) (by decide)
  refine t_Ma_admit_33 mi ml z _ _ ⟨hin, hin, ?_⟩
  rw [cl_nI (show b < 2 ^ 31 by omega), cl_nI (show r < 2 ^ 31 by omega)]
  have F1 : Fr [56, 57, 58, 59] mi (up mi 59 b (mi 59 b ||| ((1 : Int32) <<< (nI r &&& 31)))) := (Fr_up _ _ _ _).weak (by simp)
  have hs1 := hs.ask (b := b) (r := r) (by omega) (by decide) (by omega)
  generalize up mi 59 b (mi 59 b ||| ((1 : Int32) <<< (nI r &&& 31))) = m1 at F1 hs1 ⊢
  refine c_Ma_comeIn hB6 hs1 hb (by omega) hn (fun m2 F2 hs2 => ⟨hin4, t_Sc_roomOf_33 _ _ _ _ ⟨in_addL (a := 12) (by omega) (by decide), ?_⟩⟩)
  have F : Fr [56, 57, 58, 59] mi m2 := F1.step (F2.weak (by simp))
  have hcl := cnt_le (inn (fun i => if i = b then some r else wo i) r) B
  rw [addL_cl 12 r (by omega), F 34 (by decide), hrm, (hs2.2.1 r (by omega)).2, (hs2.2.1 r (by omega)).1, nI_ltI (by omega) (by omega)]
  refine ⟨fun c => ⟨hin4, c_Sc_leastLiked_33 (by rw [F 18 (by decide)]; exact hB) hB6 hR4 (hl.f5 F (by decide)) hr (enc_64 _ hB6) ?_⟩, fun c => hq1 (by omega) m2 F hs2⟩
  rw [lst_enc]
  obtain ⟨o, ho⟩ := lst_some (p := inn (fun i => if i = b then some r else wo i) r) (f := fun b' => prO T b' r) (B := B) (by omega)
  have ho1 := lst_lt ho
  rw [ho]
  refine ⟨fun q => absurd q (neg1_ne (by omega)), fun _ => c_Ma_goOff hB6 hs2 ho1.1 (by omega) (by simpa [inn] using ho1.2) (fun m3 F3 hs3 => hq2 (by omega) o m3 ho (F.step (F3.weak (by simp))) hs3)⟩
