/-! ===== the class reads a law: leaves ===== -/
theorem zAdv_f {tp : Nat → Nat} {n : Nat} {s : PS} (h : ¬ zF s = 0) : zAdv tp n s = s := by unfold zAdv; rw [if_neg h]
theorem zRf_f {w : Nat} {s : PS} (h : ¬ zF s = 0) : zRf w s = s := by unfold zRf; rw [if_neg h]
theorem c_La_addCode {l : Launch} {h : Nat} {mi : TMi} {ml : TMl} {z c : Nat} {v : Int32} {Q : Int32 → TMi → TMl → Nat → Prop} (h11 : mi 3 11 = nI c) (hc : c ≤ 900)
    (hq : ∀ mi' c', Fr [3, 11] mi mi' → (∀ k, k ≠ 11 → mi' 3 k = mi 3 k) → mi' 3 11 = nI c' → c' ≤ 900 → (c < 900 → c' = c + 1 ∧ mi' 11 c = v ∧ ∀ j, j ≠ c → mi' 11 j = mi 11 j) → Q (nI (c' - 1)) mi' ml z) : CI l (h + 1) m_La_addCode [.ref 3, .int v] mi ml z Q := by
  refine t_La_addCode_3 mi ml z _ ?_
  show (nI 900 ≤ mi 3 11 → _) ∧ (¬ nI 900 ≤ mi 3 11 → _)
  rw [h11, nI_leI (by decide) (by omega)]
  refine ⟨fun k => ?_, fun k => ⟨in_nI (by omega) (by decide), ?_⟩⟩
  · have e : c = 900 := by omega
    have := hq mi 900 (Fr.refl _ _) (fun _ _ => rfl) (by rw [h11, e]) (by decide) (fun q => by omega)
    rw [e]
    exact this
  · rw [cl_nI (by omega), up_at, up_ne _ _ _ (by decide), h11, nI_1, sub1 (by omega) (by omega)]
    refine hq _ (c + 1) (fun a ha => ?_) (fun j hj => ?_) (up_at _ _ _ _) (by omega) (fun _ => ⟨rfl, ?_, fun j hj => ?_⟩)
    · simp only [List.mem_cons, List.mem_nil_iff, or_false, not_or] at ha
      rw [up_ne _ _ _ ha.1, up_ne _ _ _ ha.2]
    · rw [up_nk _ _ _ hj, up_ne _ _ _ (by decide)]
    · rw [up_ne _ _ _ (by decide), up_at]
    · rw [up_ne _ _ _ (by decide), up_nk _ _ _ hj]
theorem c_Re_goesIn {l : Launch} {h : Nat} {mi : TMi} {ml : TMl} {z n d : Nat} {tp : Nat → Nat} {s : PS} {Q : Int32 → TMi → TMl → Nat → Prop} (hP : CP mi tp n s) (hd : d ≤ 6) (hq1 : d < 6 → ∀ mi', Fr [12] mi mi' → CP mi' tp n (zAdv tp n s) → Q 1 mi' ml z) (hq0 : ¬ d < 6 → ∀ mi', Fr [12] mi mi' → CP mi' tp n (zRf 4 s) → Q 0 mi' ml z) : CI l (h + 7) m_Re_goesIn [.ref 13, .int (nI d)] mi ml z Q := by
  refine t_Re_goesIn mi ml z _ ?_
  show (nI d < nI 6 → _) ∧ (¬ nI d < nI 6 → _)
  rw [nI_ltI (by omega) (by decide)]
  exact ⟨fun k => c_To_advance hP (hq1 k), fun k => c_To_refuse hP (w := 4) (by decide) (by decide) (hq0 k)⟩
theorem c_Re_aim {l : Launch} {h : Nat} {mi : TMi} {ml : TMl} {z c p : Nat} {Q : TMi → TMl → Nat → Prop} (h11 : mi 3 11 = nI c) (hc : c ≤ 900) (hp : p < 900)
    (hq : ∀ mi', Fr [11] mi mi' → (p < c → mi' 11 p = mi 11 p + nI c) → (∀ j, j ≠ p → mi' 11 j = mi 11 j) → Q mi' ml z) : CV l (h + 1) m_Re_aim [.ref 13, .int (nI p)] mi ml z Q := by
  refine t_Re_aim mi ml z _ ⟨fun k => ?_, fun _ => ?_⟩
  · rw [i32_lt0, nI_toInt (by omega)] at k; omega
  · rw [h11, nI_leI (by omega) (by omega)]
    refine ⟨fun k => hq mi (Fr.refl _ _) (fun q => by omega) (fun _ _ => rfl), fun k => ⟨in_nI hp (by decide), in_nI hp (by decide), ?_⟩⟩
    rw [cl_nI (by omega)]
    exact hq _ (Fr_up _ _ _ _) (fun _ => up_at _ _ _ _) (fun j hj => up_nk _ _ _ hj)
def cmpO (s : PS) : Int32 := if zSees 61 s then 3003 else if zSees 60 s then 3004 else 3005
noncomputable def cmpS (tp : Nat → Nat) (n : Nat) (s : PS) : PS := if zSees 61 s ∨ zSees 60 s ∨ zSees 62 s then zAdv tp n s else zRf 2 s
theorem c_Re_readComparison {l : Launch} {h : Nat} {mi : TMi} {ml : TMl} {z n : Nat} {tp : Nat → Nat} {s : PS} {Q : Int32 → TMi → TMl → Nat → Prop} (hP : CP mi tp n s)
    (hq : ∀ mi' v, Fr [12] mi mi' → CP mi' tp n (cmpS tp n s) → 6000 ≤ v → v < 14000 → (zF (cmpS tp n s) = 0 → ∀ x y, opC v x y = opV (cmpO s) x y) → Q (nI v) mi' ml z) : CI l (h + 7) m_Re_readComparison [.ref 13] mi ml z Q := by
  refine t_Re_readComparison mi ml z (c_To_sees hP (k := 60) (by decide) (fun c => ⟨fun e => absurd e (by decide), fun _ => ?_⟩) (fun c => ⟨fun _ => c_To_sees hP (k := 62) (by decide) (fun c2 => ⟨fun e => absurd e (by decide), fun _ => ?_⟩) (fun c2 => ⟨fun _ => c_To_sees hP (k := 61) (by decide) (fun c3 => ⟨fun _ => ?_, fun e => absurd e (by decide)⟩) (fun c3 => ⟨fun e => absurd rfl e, fun _ => ?_⟩), fun e => absurd rfl e⟩), fun e => absurd rfl e⟩))
  · have e1 : cmpS tp n s = zAdv tp n s := by unfold cmpS; rw [if_pos (Or.inr (Or.inl c))]
    have e2 : cmpO s = 3004 := by unfold cmpO; rw [if_neg (fun q => by have := c.2; have := q.2; omega), if_pos c]
    rw [e1, e2] at hq
    exact c_To_advance hP (fun mi' F P => hq mi' 10000 F P (by decide) (by decide) (fun _ x y => op_100 x y))
  · have e1 : cmpS tp n s = zAdv tp n s := by unfold cmpS; rw [if_pos (Or.inr (Or.inr c2))]
    have e2 : cmpO s = 3005 := by unfold cmpO; rw [if_neg (fun q => by have := c2.2; have := q.2; omega), if_neg c]
    rw [e1, e2] at hq
    exact c_To_advance hP (fun mi' F P => hq mi' 11000 F P (by decide) (by decide) (fun _ x y => op_110 x y))
  · have e1 : cmpS tp n s = zAdv tp n s := by unfold cmpS; rw [if_pos (Or.inl c3)]
    have e2 : cmpO s = 3003 := by unfold cmpO; rw [if_pos c3]
    rw [e1, e2] at hq
    exact c_To_advance hP (fun mi' F P => hq mi' 9000 F P (by decide) (by decide) (fun _ x y => op_90 x y))
  · have e1 : cmpS tp n s = zRf 2 s := by
      unfold cmpS
      rw [if_neg (fun q => by
        rcases q with q | q | q
        · exact c3 q
        · exact c q
        · exact c2 q)]
    rw [e1] at hq
    refine c_To_refuse hP (w := 2) (by decide) (by decide) (fun m1 F1 P1 => c_To_advance P1 (fun m2 F2 P2 => ?_))
    rw [zAdv_f (zRf_n (by decide))] at P2
    exact hq m2 9000 (F1.step F2) P2 (by decide) (by decide) (fun q => absurd q (zRf_n (by decide)))
/-- what a reader of a piece of a law leaves behind -/
def CQ (tp : Nat → Nat) (n : Nat) (mi mi' : TMi) (c0 c : Nat) (s : PS) (r : PS × FF) (dp : Nat) (tr : Bool) : Prop :=
  CP mi' tp n r.1 ∧ Fr [3, 11, 12] mi mi' ∧ (∀ k, k ≠ 11 → mi' 3 k = mi 3 k) ∧ zQ s ≤ zQ r.1 ∧ ∃ c', mi' 3 11 = nI c' ∧ c' ≤ 900 ∧ (zF r.1 = 0 → zF s = 0 ∧ c ≤ c' ∧ c' + zQ s ≤ c + zQ r.1 ∧ (∀ j, j < c → mi' 11 j = mi 11 j) ∧ (tr = true → trF r.2) ∧ CS (mi' 11) c0 c' dp r.2)
theorem Fr12 {mi mi' : TMi} (F : Fr [12] mi mi') : mi' 3 = mi 3 ∧ mi' 11 = mi 11 ∧ mi' 2 = mi 2 ∧ Fr [3, 11, 12] mi mi' := ⟨F 3 (by decide), F 11 (by decide), F 2 (by decide), F.weak (by simp)⟩
theorem Fr311 {mi mi' : TMi} (F : Fr [3, 11] mi mi') : mi' 12 = mi 12 ∧ mi' 2 = mi 2 ∧ Fr [3, 11, 12] mi mi' := ⟨F 12 (by decide), F 2 (by decide), F.weak (by simp)⟩
theorem CQ_bad {tp : Nat → Nat} {n : Nat} {mi mi' : TMi} {c0 c c' : Nat} {s : PS} {r : PS × FF} {dp : Nat} {tr : Bool} (h1 : CP mi' tp n r.1) (h2 : Fr [3, 11, 12] mi mi') (h3 : ∀ k, k ≠ 11 → mi' 3 k = mi 3 k) (h4 : zQ s ≤ zQ r.1) (h5 : mi' 3 11 = nI c') (h6 : c' ≤ 900) (h7 : ¬ zF r.1 = 0) : CQ tp n mi mi' c0 c s r dp tr := ⟨h1, h2, h3, h4, c', h5, h6, fun k => absurd k h7⟩
/-- tokens read ahead of it and behind it -/
theorem CQ.tok {tp : Nat → Nat} {n : Nat} {mi m1 m2 m3 : TMi} {c0 c : Nat} {s s1 s2 : PS} {r : PS × FF} {dp dp' : Nat} {tr : Bool} (h : CQ tp n m1 m2 c0 c s1 r dp tr) (F1 : Fr [12] mi m1) (F2 : Fr [12] m2 m3) (hP : CP m3 tp n s2) (a1 : zF s1 = 0 → zF s = 0) (a2 : zQ s ≤ zQ s1) (b1 : zF s2 = 0 → zF r.1 = 0) (b2 : zQ r.1 ≤ zQ s2) (hd : dp ≤ dp') : CQ tp n mi m3 c0 c s (s2, r.2) dp' tr := by
  obtain ⟨h1, h2, h3, h4, c', h5, h6, h7⟩ := h
  obtain ⟨e1, e2, e3, e4⟩ := Fr12 F1
  obtain ⟨g1, g2, g3, g4⟩ := Fr12 F2
  refine ⟨hP, (e4.step h2).step g4, fun k hk => by rw [g1, h3 k hk, e1], by show zQ s ≤ zQ s2; omega, c', by rw [g1]; exact h5, h6, fun q => ?_⟩
  obtain ⟨i1, i2, i3, i4, i5, i6⟩ := h7 (b1 q)
  exact ⟨a1 i1, i2, by show c' + zQ s ≤ c + zQ s2; omega, fun j hj => by rw [g2, i4 j hj, e2], i5, by rw [g2]; exact i6.mono hd⟩
