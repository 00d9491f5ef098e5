/-! ===== the reference's answers about all that hold ===== -/
theorem Like.of {B R : Nat} {L T L' T' : Nat → Nat → Int} (h : ∀ b r, b < B → r < R → L b r = L' b r ∧ T b r = T' b r) : Like B R L T L' T' :=
  ⟨fun b r hb hr => by unfold wdO; rw [(h b r hb hr).1, (h b r hb hr).2], fun b r r' hb hr hr' _ _ => by unfold pbO; rw [(h b r hb hr).1, (h b r' hb hr').1], fun b b' r hb hb' hr _ _ => by unfold prO; rw [(h b r hb hr).2, (h b' r hb' hr).2]⟩
theorem hl_congr {B R : Nat} {L T L' T' : Nat → Nat → Int} {rm : Nat → Nat} (hB6 : B ≤ 6) (h : Like B R L T L' T') : hl B R L T rm (5 ^ B) = hl B R L' T' rm (5 ^ B) := by
  unfold hl
  refine List.filter_congr (fun c hc => ?_)
  rw [List.mem_range] at hc
  rw [Bool.eq_iff_iff, hp_iff hB6 hc, hp_iff hB6 hc]
  exact ⟨fun q => q.like h, fun q => q.like h.symm⟩
/-- what the reference's asking leaves as it was -/
def FQ (mi mi' : TMi) : Prop := (∀ n, n < 119 ∨ n = 120 ∨ n = 121 ∨ n = 122 ∨ n = 134 ∨ n = 135 → mi' n = mi n) ∧ mi' 119 5 = mi 119 5 ∧ mi' 119 13 = mi 119 13 ∧ mi' 119 14 = mi 119 14
theorem FQ.refl (mi : TMi) : FQ mi mi := ⟨fun _ _ => rfl, rfl, rfl, rfl⟩
theorem FQ.trans {a b c : TMi} (h : FQ a b) (k : FQ b c) : FQ a c := ⟨fun n hn => by rw [k.1 n hn, h.1 n hn], by rw [k.2.1, h.2.1], by rw [k.2.2.1, h.2.2.1], by rw [k.2.2.2, h.2.2.2]⟩
theorem FQ.u119 (mi : TMi) {k : Nat} (x : Int32) (h : k ≠ 5 ∧ k ≠ 13 ∧ k ≠ 14) : FQ mi (up mi 119 k x) := ⟨fun n hn => up_ne _ _ _ (by omega), up_nk _ _ _ (Ne.symm h.1), up_nk _ _ _ (Ne.symm h.2.1), up_nk _ _ _ (Ne.symm h.2.2)⟩
theorem FQ.of {mi mi' : TMi} {ns : List Nat} (F : Fr ns mi mi') (h : ∀ n, n < 119 ∨ n = 119 ∨ n = 120 ∨ n = 121 ∨ n = 122 ∨ n = 134 ∨ n = 135 → n ∉ ns) : FQ mi mi' := by
  have e : mi' 119 = mi 119 := F 119 (h 119 (by omega))
  exact ⟨fun n hn => F n (h n (by omega)), by rw [e], by rw [e], by rw [e]⟩
theorem FrH.q {a b : TMi} (h : FrH a b) : FQ a b := ⟨fun n hn => h.1 n (by omega) (by omega) (by omega), h.2 5 (by decide), h.2 13 (by decide), h.2 14 (by decide)⟩
/-- a land and its state, as the reference has them -/
def RA (mi : TMi) (a : Ln) (d : Dt) : Prop := okLn a ∧ okD a d ∧ bdLn a ∧ LnR (mi 120) a ∧ CrA mi d
theorem RA.q {mi mi' : TMi} {a : Ln} {d : Dt} (h : RA mi a d) (F : FQ mi mi') : RA mi' a d := by
  have e := F.1 120 (by omega)
  exact ⟨h.1, h.2.1, h.2.2.1, by rw [e]; exact h.2.2.2.1, h.2.2.2.2.fr e⟩
abbrev hlA (a : Ln) (d : Dt) : List Nat := hl (nB a) (nR a) (lkD a d) (tkD a d) (dR d) (5 ^ nB a)
theorem RA.rh {mi : TMi} {a : Ln} {d : Dt} (h : RA mi a d) (hl : LT mi a d) : RH mi (nB a) (nR a) (Lk mi 126) (Lk mi 127) (dR d) := by
  obtain ⟨h1, h2, h3, h4, h5⟩ := h
  refine ⟨h4.1, h1.1, h4.2.1, h1.2.1, rfl, rfl, hl.b6 h1 h2.v h3, hl.b7 h1 h2.v h3, fun r hr => ?_⟩
  have := h1.2.1
  have := (h2.2.2.1 r).1
  exact ⟨cr_rm h5 (by omega), by omega⟩
theorem LT.like {mi : TMi} {a : Ln} {d : Dt} (h : LT mi a d) : Like (nB a) (nR a) (Lk mi 126) (Lk mi 127) (lkD a d) (tkD a d) := Like.of h
theorem LT.pb {mi : TMi} {a : Ln} {d : Dt} (h : LT mi a d) {b r : Nat} (hb : b < nB a) (hr : r < nR a) : pbO (Lk mi 126) b r = pbO (lkD a d) b r := by unfold pbO; rw [(h b r hb hr).1]
theorem LT.fr {mi mi' : TMi} {a : Ln} {d : Dt} (h : LT mi a d) (e1 : mi' 126 = mi 126) (e2 : mi' 127 = mi 127) : LT mi' a d := fun b r hb hr => by rw [Lk_eq e1, Lk_eq e2]; exact h b r hb hr
theorem c_held {l : Launch} {h : Nat} {mi : TMi} {ml : TMl} {z : Nat} {a : Ln} {d : Dt} {Q : TMi → TMl → Nat → Prop} (hA : RA mi a d)
    (hq : ∀ mi', FQ mi mi' → RA mi' a d → LT mi' a d → RH mi' (nB a) (nR a) (Lk mi' 126) (Lk mi' 127) (dR d) → HdS mi' (hlA a d) → Q mi' ml z) : CV l (h + 6) m_R_laysHeld [.ref 119] mi ml z Q := by
  refine t_R_laysHeld mi ml z (c_laysLikes hA.1 hA.2.1.v hA.2.2.2.1 hA.2.2.2.2 (fun m1 F1 hl1 => ?_))
  have F2 : FQ mi (up m1 119 25 0) := (FQ.of F1 (fun n hn => by simp; omega)).trans (FQ.u119 _ _ (by decide))
  have hA2 := hA.q F2
  have hl2 : LT (up m1 119 25 0) a d := hl1.fr (up_ne _ _ _ (by decide)) (up_ne _ _ _ (by decide))
  have hH := hA2.rh hl2
  refine c_R_laysHeld_loop hH (up_at _ _ _ _) (fun m3 F3 hs3 => ?_)
  have e6 : m3 126 = (up m1 119 25 0) 126 := F3.1 126 (by decide) (by decide) (by decide)
  have e7 : m3 127 = (up m1 119 25 0) 127 := F3.1 127 (by decide) (by decide) (by decide)
  have hl3 := hl2.fr e6 e7
  have hA3 := hA2.q F3.q
  rw [hl_congr hA.1.1 hl2.like] at hs3
  exact hq m3 (F2.trans F3.q) hA3 hl3 (hA3.rh hl3) hs3
theorem c_R_ofHeld {l : Launch} {h : Nat} {mi : TMi} {ml : TMl} {z : Nat} {B R b : Nat} {L : Nat → Nat → Int} {ls : List Nat} {tg : Option Nat} {Q : Int32 → TMi → TMl → Nat → Prop} (bst : Bool) (hB6 : B ≤ 6) (hR4 : R ≤ 4) (hd6 : bdA mi 126 B R) (hL : ∀ r, r < R → pbO (Lk mi 126) b r = pbO L b r) (hs : HdS mi ls) (hls : ∀ c, c ∈ ls → c < 15625) (hn : ls.length ≤ 15625) (hb : b < B)
    (h1 : ∀ c, c ∈ ls → (tg = none ∧ chW c b = none) ∨ ∃ t r, tg = some t ∧ chW c b = some r ∧ t < R ∧ r < R ∧ (if bst = true then pbO L b r else - pbO L b r) ≤ (if bst = true then pbO L b t else - pbO L b t)) (h2 : ∃ c, c ∈ ls ∧ chW c b = tg)
    (hq : Q (oI tg) mi ml z) : CI l (h + 2) m_R_ofHeld [.ref 119, .int (nI b), .int (bI bst)] mi ml z Q := by
  obtain ⟨c2, hc2, ht2⟩ := h2
  have hpos : 0 < ls.length := List.length_pos_of_mem hc2
  obtain ⟨c0, hc0⟩ : ∃ c, ls[0]? = some c := ⟨ls[0], List.getElem?_eq_getElem hpos⟩
  have hm0 := List.mem_of_getElem? hc0
  refine t_R_ofHeld mi ml z _ _ ?_
  rw [hs.2 0 c0 hc0]
  refine c_R_placeIn (by have := hls c0 hm0; omega) (by omega) ?_
  have hx : ∀ c r, chW c b = some r → r < 2 ^ 31 := fun c r e => by have := chW_lt e; omega
  refine loop (P := fun i => ∀ x c, c ∈ ls → chW c b = x → (∀ k c r, k < i + 1 → ls[k]? = some c → chW c b = some r → ∀ rx, x = some rx → (if bst = true then pbO L b r else - pbO L b r) ≤ (if bst = true then pbO L b rx else - pbO L b rx)) → Ev l (h + 2) m_R_ofHeld 14 ([.ref 119, .int (nI b), .int (bI bst), .int (oI x), .int (nI (i + 1)), .retAddr 0], [], st mi ml z) (qI Q)) (ls.length - 1) (fun x c hc hx1 hk => ?_) (fun i hi ih x c hc hx1 hk => ?_) (chW c0 b) c0 hm0 rfl (fun k c r hk hkc e rx e2 => ?_)
  · have ex : x = tg := by
      rcases h1 c hc with ⟨q1, q2⟩ | ⟨t, r, q1, q2, ht, hr, q3⟩
      · rw [q1, ← hx1, q2]
      · obtain ⟨k, hk2⟩ := List.getElem?_of_mem hc2
        have hkl : k < ls.length := by
          by_cases q : k < ls.length
          · exact q
          · rw [List.getElem?_eq_none (by omega)] at hk2; cases hk2
        have := hk k c2 t (by omega) hk2 (by rw [ht2, q1]) r (by rw [← hx1, q2])
        rw [q1, ← hx1, q2]
        congr 1
        refine pbO_inj (L := L) (b := b) (by omega) (by omega) ?_
        cases bst
        · simp at this q3; omega
        · simp at this q3; omega
    rw [ex]
    exact t_R_ofHeld_14 mi ml z _ _ _ _ ⟨fun _ => hq, fun c => absurd (le_at (by rw [hs.1]; congr 1; omega) (by omega)) c⟩
  · obtain ⟨ci, hci⟩ : ∃ c, ls[i + 1]? = some c := ⟨ls[i + 1]'(by omega), List.getElem?_eq_getElem (by omega)⟩
    have hmi := List.mem_of_getElem? hci
    refine t_R_ofHeld_14 mi ml z _ _ _ _ ⟨fun c => absurd c (ge_no (N := ls.length) hs.1 (by omega) (by omega)), fun _ => ⟨in_nI (by omega) (by decide), ?_⟩⟩
    rw [cl_nI (by omega), hs.2 (i + 1) ci hci]
    refine c_R_placeIn (by have := hls ci hmi; omega) (by omega) ?_
    rw [nI_1]
    have keep : (∀ r, chW ci b = some r → ∀ rx, x = some rx → (if bst = true then pbO L b r else - pbO L b r) ≤ (if bst = true then pbO L b rx else - pbO L b rx)) → Ev l (h + 2) m_R_ofHeld 14 ([.ref 119, .int (nI b), .int (bI bst), .int (oI x), .int (nI (i + 1 + 1)), .retAddr 0], [], st mi ml z) (qI Q) := fun he => ih x c hc hx1 (fun k c' r hk' hkc e rx e2 => by
      by_cases q : k = i + 1
      · subst q; rw [hci] at hkc; cases hkc; exact he r e rx e2
      · exact hk k c' r (by omega) hkc e rx e2)
    refine ⟨fun q => keep (fun r e rx e2 => ?_), fun q => ⟨fun q2 => keep (fun r e => ?_), fun q2 => ⟨fun q3 => keep (fun r e rx e2 => ?_), fun q3 => ?_⟩⟩⟩
    · have := oI_inj (hx ci) (fun n e => hx c n (by rw [hx1]; exact e)) q
      rw [e, e2] at this
      cases this
      exact Int.le_refl _
    · rw [e] at q2; exact absurd q2 (neg1_ne (hx ci r e))
    · rw [e2] at q3; exact absurd q3 (neg1_ne (hx c rx (by rw [hx1]; exact e2)))
    · cases e : chW ci b with
      | none => rw [e] at q2; exact absurd rfl q2
      | some r =>
        cases e2 : x with
        | none => rw [e2] at q3; exact absurd rfl q3
        | some rx =>
          have hr : r < R := by
            rcases h1 ci hmi with ⟨_, k2⟩ | ⟨_, r', _, k2, _, k3, _⟩
            · rw [k2] at e; cases e
            · rw [k2] at e; cases e; exact k3
          have hrx : rx < R := by
            rcases h1 c hc with ⟨_, k2⟩ | ⟨_, r', _, k2, _, k3, _⟩
            · rw [hx1, e2] at k2; cases k2
            · rw [hx1, e2] at k2; cases k2; exact k3
          have keep' := keep
          rw [e2] at keep'
          refine c_R_likesMore hB6 hR4 hd6 hb hrx hr ?_
          rw [hL r hr, hL rx hrx]
          refine ⟨fun q5 => keep' (fun r' e' rx' e2' => ?_), fun q5 => ?_⟩
          · rw [e] at e'; cases e'; cases e2'
            cases bst
            · by_cases c7 : pbO L b rx < pbO L b r
              · simp; omega
              · exact absurd (by rw [decide_eq_false c7]) q5
            · by_cases c7 : pbO L b rx < pbO L b r
              · exact absurd (by rw [decide_eq_true c7]) q5
              · simp; omega
          · have hle : (if bst = true then pbO L b rx else - pbO L b rx) ≤ (if bst = true then pbO L b r else - pbO L b r) := by
              cases bst
              · by_cases c7 : pbO L b rx < pbO L b r
                · rw [decide_eq_true c7] at q5; exact absurd q5 (by decide)
                · simp; omega
              · by_cases c7 : pbO L b rx < pbO L b r
                · simp; omega
                · rw [decide_eq_false c7] at q5; exact absurd q5 (by decide)
            refine ih (some r) ci hmi e (fun k c' r' hk' hkc e' rx' e2' => ?_)
            cases e2'
            by_cases qk : k = i + 1
            · subst qk; rw [hci] at hkc; cases hkc; rw [e] at e'; cases e'; exact Int.le_refl _
            · exact Int.le_trans (hk k c' r' (by omega) hkc e' rx e2) hle
  · have : k = 0 := by omega
    subst this
    rw [hc0] at hkc
    cases hkc
    rw [e] at e2
    cases e2
    exact Int.le_refl _
abbrev BestA (a : Ln) (d : Dt) (be : Nat → Option Nat) : Prop := Best (nB a) (nR a) (lkD a d) (tkD a d) (dR d) be
abbrev WorstA (a : Ln) (d : Dt) (wo : Nat → Option Nat) : Prop := Worst (nB a) (nR a) (lkD a d) (tkD a d) (dR d) wo
theorem hl_15 {a : Ln} {d : Dt} (ha : okLn a) : (∀ c, c ∈ hlA a d → c < 15625) ∧ (hlA a d).length ≤ 15625 := by
  have := pow5 ha.1
  exact ⟨fun c hc => by have := hl_lt hc; omega, Nat.le_trans hl_len this⟩
theorem c_of_best {l : Launch} {h : Nat} {mi : TMi} {ml : TMl} {z : Nat} {a : Ln} {d : Dt} {b : Nat} {be : Nat → Option Nat} {Q : Int32 → TMi → TMl → Nat → Prop} (hA : RA mi a d) (hT : LT mi a d) (hs : HdS mi (hlA a d)) (hb : b < nB a) (hbe : BestA a d be) (hq : Q (oI (be b)) mi ml z) : CI l (h + 2) m_R_ofHeld [.ref 119, .int (nI b), .int 1] mi ml z Q := by
  obtain ⟨ha, hd, hbd, _, _⟩ := hA
  obtain ⟨wo, hwo⟩ := ex_worst (lkD a d) (tkD a d) (dR d) ha.1 ha.2.1
  refine c_R_ofHeld (L := lkD a d) (tg := be b) true ha.1 ha.2.1 (hT.b6 ha hd.v hbd) (fun r hr => hT.pb hb hr) hs (hl_15 ha).1 (hl_15 ha).2 hb (fun c hc => ?_) ?_ hq
  · have hc' := (mem_hl ha.1).mp hc
    rcases hold_bd ha.2.1 hbe hwo hc'.2 b hb with k | ⟨r, r1, r2, k1, k2, k3, k4, k5⟩
    · exact Or.inl ⟨k.2.1, k.1⟩
    · exact Or.inr ⟨r1, r, k2, k1, (hbe.1.1 b r1 hb k2).1, (hc'.2.1 b r hb k1).1, by simp; omega⟩
  · have := hbe.1.in_hl ha.1 ha.2.1
    exact ⟨_, this.1, this.2 b hb⟩
theorem c_of_worst {l : Launch} {h : Nat} {mi : TMi} {ml : TMl} {z : Nat} {a : Ln} {d : Dt} {b : Nat} {wo : Nat → Option Nat} {Q : Int32 → TMi → TMl → Nat → Prop} (hA : RA mi a d) (hT : LT mi a d) (hs : HdS mi (hlA a d)) (hb : b < nB a) (hwo : WorstA a d wo) (hq : Q (oI (wo b)) mi ml z) : CI l (h + 2) m_R_ofHeld [.ref 119, .int (nI b), .int 0] mi ml z Q := by
  obtain ⟨ha, hd, hbd, _, _⟩ := hA
  obtain ⟨be, hbe⟩ := ex_best (lkD a d) (tkD a d) (dR d) ha.1 ha.2.1
  refine c_R_ofHeld (L := lkD a d) (tg := wo b) false ha.1 ha.2.1 (hT.b6 ha hd.v hbd) (fun r hr => hT.pb hb hr) hs (hl_15 ha).1 (hl_15 ha).2 hb (fun c hc => ?_) ?_ hq
  · have hc' := (mem_hl ha.1).mp hc
    rcases hold_bd ha.2.1 hbe hwo hc'.2 b hb with k | ⟨r, r1, r2, k1, k2, k3, k4, k5⟩
    · exact Or.inl ⟨k.2.2, k.1⟩
    · exact Or.inr ⟨r2, r, k3, k1, (hwo.1.1 b r2 hb k3).1, (hc'.2.1 b r hb k1).1, by simp; omega⟩
  · have := hwo.1.in_hl ha.1 ha.2.1
    exact ⟨_, this.1, this.2 b hb⟩
theorem c_R_forBecks {l : Launch} {h : Nat} {mi : TMi} {ml : TMl} {z : Nat} {a : Ln} {d : Dt} {x : Int32} {Q : Int32 → TMi → TMl → Nat → Prop} (hA : RA mi a d)
    (hq1 : inB a x → ∀ mi' be, FQ mi mi' → BestA a d be → Q (oI (be x.toInt.toNat)) mi' ml z) (hq0 : ¬ inB a x → ∀ mi', FQ mi mi' → Q (-2) mi' ml z) : CI l (h + 7) m_R_forBecks [.ref 119, .int x] mi ml z Q := by
  have F0 : FQ mi (up mi 119 0 0) := FQ.u119 _ _ (by decide)
  have hA0 := hA.q F0
  refine t_R_forBecks mi ml z _ (c_R_isBeck hA0.2.2.2.1.1 hA.1.1 ?_)
  rw [t64]
  refine ⟨fun c => ?_, fun c => ?_⟩
  · rw [bI_0, Bool.not_eq_false, decide_eq_true_eq] at c
    obtain ⟨ex, hb⟩ := inB_nI (a := a) c
    have hq1 := hq1 c
    generalize x.toInt.toNat = b at ex hb hq1
    rw [ex]
    refine c_held hA0 (fun m1 F1 hA1 hT1 hH1 hs1 => ?_)
    obtain ⟨be, hbe⟩ := ex_best (lkD a d) (tkD a d) (dR d) hA.1.1 hA.1.2.1
    exact c_of_best hA1 hT1 hs1 hb hbe (hq1 m1 be (F0.trans F1) hbe)
  · rw [bI_0, decide_eq_false_iff_not] at c
    exact hq0 c _ F0
theorem c_R_forRivers {l : Launch} {h : Nat} {mi : TMi} {ml : TMl} {z : Nat} {a : Ln} {d : Dt} {x : Int32} {Q : Int32 → TMi → TMl → Nat → Prop} (hA : RA mi a d)
    (hq1 : inB a x → ∀ mi' wo, FQ mi mi' → WorstA a d wo → Q (oI (wo x.toInt.toNat)) mi' ml z) (hq0 : ¬ inB a x → ∀ mi', FQ mi mi' → Q (-2) mi' ml z) : CI l (h + 7) m_R_forRivers [.ref 119, .int x] mi ml z Q := by
  have F0 : FQ mi (up mi 119 0 0) := FQ.u119 _ _ (by decide)
  have hA0 := hA.q F0
  refine t_R_forRivers mi ml z _ (c_R_isBeck hA0.2.2.2.1.1 hA.1.1 ?_)
  rw [t64]
  refine ⟨fun c => ?_, fun c => ?_⟩
  · rw [bI_0, Bool.not_eq_false, decide_eq_true_eq] at c
    obtain ⟨ex, hb⟩ := inB_nI (a := a) c
    have hq1 := hq1 c
    generalize x.toInt.toNat = b at ex hb hq1
    rw [ex]
    refine c_held hA0 (fun m1 F1 hA1 hT1 hH1 hs1 => ?_)
    obtain ⟨wo, hwo⟩ := ex_worst (lkD a d) (tkD a d) (dR d) hA.1.1 hA.1.2.1
    exact c_of_worst hA1 hT1 hs1 hb hwo (hq1 m1 wo (F0.trans F1) hwo)
  · rw [bI_0, decide_eq_false_iff_not] at c
    exact hq0 c _ F0
theorem c_R_choices {l : Launch} {h : Nat} {mi : TMi} {ml : TMl} {z : Nat} {a : Ln} {d : Dt} {Q : Int32 → TMi → TMl → Nat → Prop} (hA : RA mi a d)
    (hq : ∀ mi', FQ mi mi' → Q (nI (hlA a d).length) mi' ml z) : CI l (h + 7) m_R_choices [.ref 119] mi ml z Q := by
  have F0 : FQ mi (up mi 119 0 0) := FQ.u119 _ _ (by decide)
  refine t_R_choices mi ml z (c_held (hA.q F0) (fun m1 F1 hA1 hT1 hH1 hs1 => ?_))
  rw [hs1.1]
  exact hq m1 (F0.trans F1)
def chA (a : Ln) (d : Dt) (x : Int32) : Int32 := if x.toInt < 0 then -3 else match (hlA a d)[x.toInt.toNat]? with | some c => nI c | none => -1
theorem c_R_choice {l : Launch} {h : Nat} {mi : TMi} {ml : TMl} {z : Nat} {a : Ln} {d : Dt} {x : Int32} {Q : Int32 → TMi → TMl → Nat → Prop} (hA : RA mi a d)
    (hq : ∀ mi', FQ mi mi' → Q (chA a d x) mi' ml z) : CI l (h + 7) m_R_choice [.ref 119, .int x] mi ml z Q := by
  have F0 : FQ mi (up mi 119 0 0) := FQ.u119 _ _ (by decide)
  unfold chA at hq
  refine t_R_choice mi ml z _ ⟨fun c => c_held (hA.q F0) (fun m1 F1 hA1 hT1 hH1 hs1 => ?_), fun c => ?_⟩
  · rw [Int32.le_iff_toInt_le, Int32.toInt_zero] at c
    have hq := hq m1 (F0.trans F1)
    rw [if_neg (by omega)] at hq
    have ex := nI_toNat c
    have hlt := Int32.toInt_lt x
    have hx : x.toInt.toNat < 2 ^ 31 := by omega
    generalize x.toInt.toNat = k at ex hq hx
    have h15 := (hl_15 (d := d) hA.1).2
    rw [ex, hs1.1, nI_leI (by omega) (by omega), cl_nI hx]
    refine ⟨fun c1 => ?_, fun c1 => ⟨in_nI (by omega) (by decide), ?_⟩⟩
    · rw [List.getElem?_eq_none (by omega)] at hq; exact hq
    · obtain ⟨ci, hci⟩ : ∃ c, (hlA a d)[k]? = some c := ⟨(hlA a d)[k]'(by omega), List.getElem?_eq_getElem (by omega)⟩
      rw [hci] at hq
      rw [hs1.2 k ci hci]
      exact hq
  · rw [Int32.le_iff_toInt_le, Int32.toInt_zero] at c
    have hq := hq _ F0
    rw [if_pos (by omega)] at hq
    exact hq
