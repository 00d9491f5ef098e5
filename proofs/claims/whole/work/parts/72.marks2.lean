/-! ===== marks and ask, on both sides ===== -/
abbrev inT (x : Int32) : Prop := 0 ≤ x.toInt ∧ x.toInt < 4
theorem inT_nI {x : Int32} (h : inT x) : x = nI x.toInt.toNat ∧ x.toInt.toNat < 4 := ⟨nI_toNat h.1, by have := h.2; have := h.1; omega⟩
def ansC (a : Ln) (d : Dt) (ty : Ty) (x y : Int32) : Int32 := if inT x ∧ inB a y then (if ty.1 x.toInt.toNat = none then -6 else if ¬ ty.2.1 x.toInt.toNat = nB a then -4 else if ansOk a d (ty.2.2 x.toInt.toNat) = true then 0 else -3) else -2
theorem c_isTray {l : Launch} {h : Nat} {mi : TMi} {ml : TMl} {z : Nat} {x : Int32} {Q : Int32 → TMi → TMl → Nat → Prop} (hq1 : inT x → Q 1 mi ml z) (hq0 : ¬ inT x → Q 0 mi ml z) : CI l (h + 1) m_B_isTray [.int x] mi ml z Q := by
  refine t_B_isTray mi ml z _ ?_
  rw [Int32.lt_iff_toInt_lt, Int32.toInt_zero, Int32.le_iff_toInt_le, show (4 : Int32).toInt = 4 by decide]
  exact ⟨fun c => hq0 (by omega), fun c => ⟨fun c2 => hq0 (by omega), fun c2 => hq1 (by omega)⟩⟩
theorem c_missing {l : Launch} {h : Nat} {mi : TMi} {ml : TMl} {z : Nat} {t : Nat} {Q : Int32 → TMi → TMl → Nat → Prop} (ht : t < 4) (hq : ((¬ mi (111 + 2 * t) 1 = -1 → Q 0 mi ml z) ∧ (mi (111 + 2 * t) 1 = -1 → Q 1 mi ml z))) : CI l (h + 1) m_Tr_missing [.ref (111 + 2 * t)] mi ml z Q := by
  match t, ht with
  | 0, _ => exact t_Tr_missing_111 mi ml z hq
  | 1, _ => exact t_Tr_missing_113 mi ml z hq
  | 2, _ => exact t_Tr_missing_115 mi ml z hq
  | 3, _ => exact t_Tr_missing_117 mi ml z hq
theorem c_hear {l : Launch} {h : Nat} {mi : TMi} {ml : TMl} {z : Nat} {a : Ln} {d : Dt} {t : Nat} {vs : Nat → Int64} {Q : Int32 → TMi → TMl → Nat → Prop} (ht : t < 4) (hA : CA mi a d) (hn : mi (111 + 2 * t) 2 = nI (nB a)) (hv : ∀ i, i < nB a → ml (112 + 2 * t) i = vs i)
    (hq1 : ansOk a d vs = true → ∀ mi', Fr [76] mi mi' → isW (mi' 76) (nB a) (nR a) (fun b => vW (vs b)) → Q 1 mi' ml z) (hq0 : ansOk a d vs = false → ∀ mi', Fr [76] mi mi' → Q 0 mi' ml z) : CI l (h + 3) m_Su_hear [.ref 75, .ref 17, .ref (111 + 2 * t)] mi ml z Q := by
  match t, ht with
  | 0, _ => exact c_Su_hear_111 hA hn hv hq1 hq0
  | 1, _ => exact c_Su_hear_113 hA hn hv hq1 hq0
  | 2, _ => exact c_Su_hear_115 hA hn hv hq1 hq0
  | 3, _ => exact c_Su_hear_117 hA hn hv hq1 hq0
abbrev woT (ty : Ty) (t : Nat) : Nat → Option Nat := fun b => vW (ty.2.2 t b)
theorem oI_m1 {x : Option Nat} (h : ∀ n, x = some n → n < 2 ^ 31) : oI x = -1 ↔ x = none := by
  cases x with
  | none => exact ⟨fun _ => rfl, fun _ => rfl⟩
  | some n => exact ⟨fun e => absurd e (neg1_ne (h n rfl)), fun e => by cases e⟩
theorem c_B_refused {l : Launch} {h : Nat} {mi : TMi} {ml : TMl} {z : Nat} {a : Ln} {d : Dt} {ty : Ty} {x y : Int32} {Q : Int32 → TMi → TMl → Nat → Prop} (hA : CA mi a d) (hT : TrC mi ml ty)
    (hq1 : inB a y → ansC a d ty x y = 0 → ∀ mi', Fr [76] mi mi' → isW (mi' 76) (nB a) (nR a) (woT ty x.toInt.toNat) → Q 0 mi' ml z) (hq0 : ¬ ansC a d ty x y = 0 → ∀ mi', Fr [76] mi mi' → Q (ansC a d ty x y) mi' ml z) : CI l (h + 4) m_B_refusedAnswers [.ref 1, .int x, .int y] mi ml z Q := by
  have ha := hA.1
  have hB6 := ha.1
  unfold ansC at hq1 hq0
  have no : ¬ (inT x ∧ inB a y) → Q (-2) mi ml z := fun hn => by
    rw [if_neg hn] at hq0
    exact hq0 (by decide) mi (Fr.refl _ _)
  refine t_B_refusedAnswers mi ml z _ _ (c_isTray (fun c => ⟨fun q => absurd q (by decide), fun _ => c_hasBeck hA.2.2.1.1 hB6 ⟨fun c2 => ?_, fun c2 => ?_⟩⟩) (fun c => ⟨fun _ => no (fun k => c k.1), fun q => absurd rfl q⟩))
  · rw [bI_0, Bool.not_eq_false, decide_eq_true_eq] at c2
    rw [if_pos ⟨c, c2⟩] at hq1 hq0
    obtain ⟨ex, ht⟩ := inT_nI c
    generalize x.toInt.toNat = t at ex ht hq1 hq0
    rw [ex]
    obtain ⟨k1, k2, k3, k4, k5⟩ := hT t ht
    have hin : vp_in (nI t) 4 := in_nI ht (by decide)
    rw [cl_nI (show t < 2 ^ 31 by omega), mr78 z ht]
    refine ⟨hin, ⟨by omega, by omega⟩, shT ht, c_missing ht ?_⟩
    rw [mr78 z ht, k1, oI_m1 (fun n e => by have := k2 n e; omega)]
    refine ⟨fun q => ⟨fun _ => ⟨hin, ⟨by omega, by omega⟩, shT ht, ?_⟩, fun c => absurd rfl c⟩, fun q => ⟨fun c => absurd c (by decide), fun _ => ?_⟩⟩
    · rw [if_neg q] at hq1 hq0
      rw [k3, hA.2.2.1.1, nI_eq (by omega) (by omega)]
      refine ⟨fun q2 => ⟨hin, ⟨by omega, by omega⟩, ?_⟩, fun q2 => ?_⟩
      · rw [if_neg (fun k => k q2)] at hq1 hq0
        refine c_hear ht hA (by rw [k3, q2]) (fun i hi => k5 i (by omega)) (fun e m F hw => ⟨fun k => absurd k (by decide), fun _ => ?_⟩) (fun e m F => ⟨fun _ => ?_, fun k => absurd rfl k⟩)
        · rw [if_pos e] at hq1
          exact hq1 c2 rfl m F hw
        · rw [if_neg (by rw [e]; decide)] at hq0
          exact hq0 (by decide) m F
      · rw [if_pos q2] at hq0
        exact hq0 (by decide) mi (Fr.refl _ _)
    · rw [if_pos q] at hq0
      exact hq0 (by decide) mi (Fr.refl _ _)
  · rw [bI_0, decide_eq_false_iff_not] at c2
    exact no (fun k => c2 k.2)
def marA (a : Ln) (d : Dt) (ty : Ty) (x y : Int32) : Int32 := if ansC a d ty x y = 0 then nI (enc (hdM a d y.toInt.toNat (woT ty x.toInt.toNat)) 10) else ansC a d ty x y
def askV (a : Ln) (d : Dt) (ty : Ty) (x y : Int32) : Int32 := if ansC a d ty x y = 0 then askA2 a d y.toInt.toNat (woT ty x.toInt.toNat) else ansC a d ty x y
theorem c_B_marks {l : Launch} {h : Nat} {mi : TMi} {ml : TMl} {z : Nat} {a : Ln} {d : Dt} {ty : Ty} {x y : Int32} {Q : Int32 → TMi → TMl → Nat → Prop} (hA : CA mi a d) (hT : TrC mi ml ty) (hq : ∀ mi', Fr SC mi mi' → Q (marA a d ty x y) mi' ml z) : CI l (h + 7) m_B_marks [.ref 1, .int x, .int y] mi ml z Q := by
  unfold marA at hq
  refine t_B_marks mi ml z _ _ (c_B_refused hA hT (fun hy e m F hw => ⟨fun _ => ?_, fun k => absurd rfl k⟩) (fun e m F => ⟨fun k => absurd k e, fun _ => ?_⟩))
  · rw [if_pos e] at hq
    obtain ⟨ey, hb⟩ := inB_nI (a := a) hy
    generalize y.toInt.toNat = b at ey hb hq
    rw [ey]
    exact c_Su_marksThatHold (hA.of F (by decide)) hb hw (fun m2 F2 e3 e77 => hq m2 ((F.weak (by simp)).step (F2.weak (by simp))))
  · rw [if_neg e] at hq
    exact hq m (F.weak (by simp))
theorem c_B_ask {l : Launch} {h : Nat} {mi : TMi} {ml : TMl} {z : Nat} {a : Ln} {d : Dt} {ty : Ty} {x y : Int32} {Q : Int32 → TMi → TMl → Nat → Prop} (hA : CA mi a d) (hT : TrC mi ml ty) (hq : ∀ mi', Fr SC mi mi' → Q (askV a d ty x y) mi' ml z) : CI l (h + 7) m_B_ask [.ref 1, .int x, .int y] mi ml z Q := by
  unfold askV at hq
  refine t_B_ask mi ml z _ _ (c_B_refused hA hT (fun hy e m F hw => ⟨fun _ => ?_, fun k => absurd rfl k⟩) (fun e m F => ⟨fun k => absurd k e, fun _ => ?_⟩))
  · rw [if_pos e] at hq
    obtain ⟨ey, hb⟩ := inB_nI (a := a) hy
    generalize y.toInt.toNat = b at ey hb hq
    rw [ey]
    refine c_Su_marksThatHold (hA.of F (by decide)) hb hw (fun m2 F2 e3 e77 => ?_)
    rw [F2 18 (by decide), F 18 (by decide), hA.2.2.1.2.1]
    exact c_Su_bestQuestion hA.1 e3 e77 (hq m2 ((F.weak (by simp)).step (F2.weak (by simp))))
  · rw [if_neg e] at hq
    exact hq m (F.weak (by simp))
/-! the reference's side -/
theorem within03 (x : Int32) : (0 ≤ x.toInt ∧ x.toInt ≤ 3) ↔ inT x := by unfold inT; omega
theorem c_R_noTray {l : Launch} {h : Nat} {mi : TMi} {ml : TMl} {z : Nat} {ty : Ty} {x : Int32} {Q : Int32 → TMi → TMl → Nat → Prop} (hT : TrR mi ml ty) (hS : ∀ t, t < 4 → ∀ s, ty.1 t = some s → s < 4) (hq : Q (if inT x then (if ty.1 x.toInt.toNat = none then -6 else 0) else -2) mi ml z) : CI l (h + 2) m_R_noTray [.ref 119, .int x] mi ml z Q := by
  refine t_R_noTray mi ml z _ (c_R_within ?_)
  rw [t64, show (0 : Int64).toInt = 0 by decide, show (3 : Int64).toInt = 3 by decide]
  refine ⟨fun c => ?_, fun c => ?_⟩
  · rw [bI_0, Bool.not_eq_false, decide_eq_true_eq, within03] at c
    rw [if_pos c] at hq
    obtain ⟨ex, ht⟩ := inT_nI c
    generalize x.toInt.toNat = t at ex ht hq
    rw [ex, cl_nI (show t < 2 ^ 31 by omega), (hT t ht).1, oI_m1 (fun n e => by have := hS t ht n e; omega)]
    refine ⟨in_nI ht (by decide), fun q => ?_, fun q => ?_⟩
    · rw [if_neg q] at hq; exact hq
    · rw [if_pos q] at hq; exact hq
  · rw [bI_0, decide_eq_false_iff_not, within03] at c
    rw [if_neg c] at hq
    exact hq
theorem c_R_noAnswers {l : Launch} {h : Nat} {mi : TMi} {ml : TMl} {z : Nat} {a : Ln} {d : Dt} {ty : Ty} {x y : Int32} {Q : Int32 → TMi → TMl → Nat → Prop} (hA : RA mi a d) (hT : TrR mi ml ty) (hS : ∀ t, t < 4 → ∀ s, ty.1 t = some s → s < 4) (hN : ∀ t, t < 4 → ty.2.1 t ≤ 40)
    (hq1 : inB a y → ansC a d ty x y = 0 → ∀ mi', Fr [129] mi mi' → isW (mi' 129) (nB a) (nR a) (woT ty x.toInt.toNat) → Q 0 mi' ml z) (hq0 : ¬ ansC a d ty x y = 0 → ∀ mi', Fr [129] mi mi' → Q (ansC a d ty x y) mi' ml z) : CI l (h + 3) m_R_noAnswers [.ref 119, .int x, .int y] mi ml z Q := by
  obtain ⟨ha, hd, hbd, hl, hc⟩ := hA
  have hB6 := ha.1
  have hR4 := ha.2.1
  unfold ansC at hq1 hq0
  have no : ¬ (inT x ∧ inB a y) → Q (-2) mi ml z := fun hn => by
    rw [if_neg hn] at hq0
    exact hq0 (by decide) mi (Fr.refl _ _)
  refine t_R_noAnswers mi ml z _ _ (c_R_within ?_)
  rw [t64, show (0 : Int64).toInt = 0 by decide, show (3 : Int64).toInt = 3 by decide]
  refine ⟨fun c => ?_, fun c => c_R_isBeck hl.1 hB6 ?_⟩
  · rw [bI_0, decide_eq_false_iff_not, within03] at c
    exact no (fun k => c k.1)
  · rw [bI_0, Bool.not_eq_false, decide_eq_true_eq, within03] at c
    rw [t64]
    refine ⟨fun c2 => c_R_noTray hT hS ?_, fun c2 => ?_⟩
    · rw [bI_0, Bool.not_eq_false, decide_eq_true_eq] at c2
      rw [if_pos ⟨c, c2⟩] at hq1 hq0
      rw [if_pos c]
      obtain ⟨ex, ht⟩ := inT_nI c
      generalize x.toInt.toNat = t at ex ht hq1 hq0
      rw [ex]
      have h40 := hN t ht
      by_cases q : ty.1 t = none
      · rw [if_pos q] at hq0 ⊢
        exact ⟨fun k => absurd k (by decide), fun _ => hq0 (by decide) mi (Fr.refl _ _)⟩
      · rw [if_neg q] at hq1 hq0 ⊢
        refine ⟨fun _ => ⟨in_nI ht (by decide), ?_⟩, fun k => absurd rfl k⟩
        rw [cl_nI (show t < 2 ^ 31 by omega), (hT t ht).2.1, hl.1, nI_eq (by omega) (by omega)]
        refine ⟨fun q2 => ?_, fun q2 => by rw [if_pos q2] at hq0; exact hq0 (by decide) mi (Fr.refl _ _)⟩
        rw [if_neg (fun k => k q2)] at hq1 hq0
        refine loop (P := fun i => ∀ m, Fr [129] mi m → (∀ b, b < i → vOk (nR a) (ty.2.2 t b) = true ∧ m 129 b = oI (vW (ty.2.2 t b))) → Ev l (h + 3) m_R_noAnswers 57 ([.ref 119, .int (nI t), .retAddr 0, .retAddr 0, .int (nI i), .retAddr 0, .retAddr 0], [], st m ml z) (qI Q)) (nB a) (fun m F hk => ?_) (fun i hi ih m F hk => ?_) mi (Fr.refl _ _) (fun b hb => absurd hb (Nat.not_lt_zero _))
        · have hlm : LnR (m 120) a := by rw [F 120 (by decide)]; exact hl
          have hall : alln (fun b => vOk (nR a) (ty.2.2 t b)) (nB a) = true := alln_iff.mpr (fun b hb => (hk b hb).1)
          have hiw : isW (m 129) (nB a) (nR a) (woT ty t) := fun b hb => ⟨(hk b hb).2, (vW_I hR4 (hk b hb).1).2⟩
          refine t_R_noAnswers_57 m ml z _ _ ⟨fun _ => c_R_fitsRooms hlm.1 hB6 hlm.2.1 hR4 hiw (rm := dR d) (fun r hr => ⟨by rw [F 120 (by decide)]; exact cr_rm hc (by omega), by have := (hd.2.2.1 r).1; omega⟩) ?_, fun c => absurd (le_at hlm.1 (by omega)) c⟩
          rw [bI_0]
          refine ⟨fun k => ?_, fun k => ?_⟩
          · have e : ansOk a d (ty.2.2 t) = false := by unfold ansOk; rw [k]; simp
            rw [if_neg (by rw [e]; decide)] at hq0
            exact hq0 (by decide) m F
          · have e : ansOk a d (ty.2.2 t) = true := by unfold ansOk; rw [hall]; simpa using k
            rw [if_pos e] at hq1
            exact hq1 c2 rfl m F hiw
        · have hlm : LnR (m 120) a := by rw [F 120 (by decide)]; exact hl
          have no3 : vOk (nR a) (ty.2.2 t i) = false → Q (-3) m ml z := fun e => by
            have e2 : ansOk a d (ty.2.2 t) = false := by unfold ansOk; rw [show alln (fun b => vOk (nR a) (ty.2.2 t b)) (nB a) = false from alln_false hi e]; rfl
            rw [if_neg (by rw [e2]; decide)] at hq0
            exact hq0 (by decide) m F
          have tx := tix ht (show i < 40 by omega)
          refine t_R_noAnswers_57 m ml z _ _ ⟨fun c => absurd c (ge_no hlm.1 (by omega) hi), fun _ => ⟨tx.2, ?_⟩⟩
          rw [tx.1, (hT t ht).2.2 i (by omega), nI_1, cl_nI (show i < 2 ^ 31 by omega)]
          have go : vOk (nR a) (ty.2.2 t i) = true → Ev l (h + 3) m_R_noAnswers 57 ([.ref 119, .int (nI t), .retAddr 0, .retAddr 0, .int (nI (i + 1)), .retAddr 0, .retAddr 0], [], st (up m 129 i ((ty.2.2 t i).toInt32)) ml z) (qI Q) := fun hok => by
            rw [(vW_I hR4 hok).1]
            refine ih _ (F.step (Fr_up _ _ _ _)) (fun b hb => ?_)
            by_cases qb : b = i
            · subst qb; rw [up_at]; exact ⟨hok, rfl⟩
            · rw [up_nk _ _ _ qb]; exact hk b (by omega)
          have ecmp : (lg_cmp (ty.2.2 t i) (-1) = 0) ↔ (ty.2.2 t i).toInt = -1 := by
            have h1 := lc_lt (ty.2.2 t i) (-1)
            have h2 := lc_gt (ty.2.2 t i) (-1)
            have e1 : (-1 : Int64).toInt = -1 := by decide
            rw [Int64.lt_iff_toInt_lt, e1] at h1 h2
            have h1' := Eq.to_iff h1
            have h2' := Eq.to_iff h2
            constructor
            · intro k
              rw [k] at h1' h2'
              have n1 : ¬ (ty.2.2 t i).toInt < -1 := fun z => absurd (h1'.mpr z) (by decide)
              have n2 : ¬ -1 < (ty.2.2 t i).toInt := fun z => absurd (h2'.mpr z) (by decide)
              omega
            · intro k
              have n1 : ¬ lg_cmp (ty.2.2 t i) (-1) < 0 := fun z => by have := h1'.mp z; omega
              have n2 : ¬ 0 < lg_cmp (ty.2.2 t i) (-1) := fun z => by have := h2'.mp z; omega
              rw [Int32.lt_iff_toInt_lt, Int32.toInt_zero] at n1 n2
              exact Int32.toInt_inj.mp (by rw [Int32.toInt_zero]; omega)
          rw [ecmp]
          refine ⟨fun k => ⟨in_nI (by omega) (by decide), go (by unfold vOk; rw [decide_eq_true_eq]; omega)⟩, fun k => c_R_isRiver hlm.2.1 hR4 ?_⟩
          rw [bI_0]
          refine ⟨fun k2 => ⟨in_nI (by omega) (by decide), go ?_⟩, fun k2 => no3 ?_⟩
          · rw [Bool.not_eq_false, decide_eq_true_eq] at k2
            unfold vOk; rw [decide_eq_true_eq]; omega
          · rw [decide_eq_false_iff_not] at k2
            unfold vOk; rw [decide_eq_false_iff_not]; omega
    · rw [bI_0, decide_eq_false_iff_not] at c2
      exact no (fun k => c2 k.2)
theorem heldS_congr {B R : Nat} {L T L' T' : Nat → Nat → Int} {rm : Nat → Nat} {wo : Nat → Option Nat} (hw : ∀ b r, b < B → wo b = some r → r < R) (h : ∀ b r, b < B → r < R → L b r = L' b r ∧ T b r = T' b r) : heldS B R L T rm wo = heldS B R L' T' rm wo := by
  unfold heldS
  refine alln_congr (fun b hb => ?_)
  have e1 : wnt L T wo b = wnt L' T' wo b := by
    unfold wnt
    cases e : wo b with
    | none => rfl
    | some r => exact wdO_congr (h b r hb (hw b r hb e))
  rw [e1]
  congr 1
  refine alln_congr (fun r hr => ?_)
  congr 1
  unfold brk
  rw [wdO_congr (h b r hb hr), adm_congr hb (fun b' hb' => (h b' r hb' hr).2)]
  congr 2
  unfold mov
  cases e : wo b with
  | none => rfl
  | some r' =>
    have hr' := hw b r' hb e
    have k1 : pbO L b r = pbO L' b r := by unfold pbO; rw [(h b r hb hr).1]
    have k2 : pbO L b r' = pbO L' b r' := by unfold pbO; rw [(h b r' hb hr').1]
    dsimp only
    rw [k1, k2]
theorem LnR.mark {g g' : Nat → Int32} {a : Ln} {b k : Nat} (ha : okLn a) (h : LnR g a) (hb : b < nB a) (e : ∀ j, j ≠ 9 + b → g' j = g j) (ek : g' (9 + b) = nI k) : LnR g' (mkL a b k) := by
  obtain ⟨h1, h2, h3, h4, h5, h6, h7, h8, h9⟩ := h
  have hB := ha.1
  have hR := ha.2.1
  have fr : ∀ {w f}, w < 2 → RLaw g w f → RLaw g' w f := fun {w f} hw h => by
    rcases h with ⟨q1, q2⟩ | ⟨q1, fr, cs, q2, q3, q4, q5, q6⟩
    · exact Or.inl ⟨by rw [e _ (by omega)]; exact q1, q2⟩
    · refine Or.inr ⟨by rw [e _ (by omega)]; exact q1, fr, cs, by rw [e _ (by omega)]; exact q2, by rw [e _ (by omega)]; exact q3, q4, fun k hk => ?_, q6⟩
      rw [e _ (by omega)]
      exact q5 k hk
  refine ⟨by rw [e _ (by omega)]; exact h1, by rw [e _ (by omega)]; exact h2, by rw [e _ (by omega)]; exact h3, fun i hi => ?_, fun i hi => by rw [e _ (by have : i < nB a := hi; omega)]; exact h5 i hi, fun i hi => by rw [e _ (by have : i < nR a := hi; omega)]; exact h6 i hi, fun i hi => by rw [e _ (by have : i < nR a := hi; omega)]; exact h7 i hi, fr (by decide) h8, fr (by decide) h9⟩
  by_cases q : i = b
  · subst q; rw [ek, mk_at]
  · have : nM (mkL a b k) i = nM a i := by simp [mkL, nM, q]
    rw [this, e _ (by omega)]
    exact h4 i hi
def FM (b : Nat) (m m' : TMi) : Prop := (∀ n, n ≠ 120 → n ≠ 124 → n ≠ 125 → n ≠ 126 → n ≠ 127 → m' n = m n) ∧ ∀ j, j ≠ 9 + b → m' 120 j = m 120 j
theorem FM.refl (b : Nat) (m : TMi) : FM b m m := ⟨fun _ _ _ _ _ _ => rfl, fun _ _ => rfl⟩
theorem FM.trans {b : Nat} {x y z : TMi} (h : FM b x y) (k : FM b y z) : FM b x z := ⟨fun n h1 h2 h3 h4 h5 => by rw [k.1 n h1 h2 h3 h4 h5, h.1 n h1 h2 h3 h4 h5], fun j hj => by rw [k.2 j hj, h.2 j hj]⟩
theorem FM.up (b : Nat) (m : TMi) (x : Int32) : FM b m (up m 120 (9 + b) x) := ⟨fun n h1 _ _ _ _ => up_ne _ _ _ h1, fun j hj => up_nk _ _ _ hj⟩
theorem FM.of {b : Nat} {m m' : TMi} {ns : List Nat} (F : Fr ns m m') (h : ∀ n, n ∈ ns → n = 124 ∨ n = 125 ∨ n = 126 ∨ n = 127) : FM b m m' := ⟨fun n h1 h2 h3 h4 h5 => F n (fun q => by have := h n q; omega), fun j _ => by rw [F 120 (fun q => by have := h 120 q; omega)]⟩
theorem FM.q {b : Nat} {m m' : TMi} (h : FM b m m') (e : m' 120 (9 + b) = m 120 (9 + b)) : FQ m m' ∧ m' 120 = m 120 := by
  have e120 : m' 120 = m 120 := by
    funext j
    by_cases q : j = 9 + b
    · rw [q]; exact e
    · exact h.2 j q
  have e9 : m' 119 = m 119 := h.1 119 (by decide) (by decide) (by decide) (by decide) (by decide)
  refine ⟨⟨fun n hn => ?_, by rw [e9], by rw [e9], by rw [e9]⟩, e120⟩
  by_cases q : n = 120
  · subst q; exact e120
  · exact h.1 n q (by omega) (by omega) (by omega) (by omega)
theorem RA.mark {m m' : TMi} {a : Ln} {d : Dt} {b k : Nat} (hA : RA m a d) (hb : b < nB a) (hk : k ≤ 9) (F : FM b m m') (e : m' 120 (9 + b) = nI k) : RA m' (mkL a b k) d := by
  have hB := hA.1.1
  exact ⟨okLn_mk hA.1 hk, hA.2.1, hA.2.2.1, hA.2.2.2.1.mark hA.1 hb F.2 e, hA.2.2.2.2.ext (fun j _ => F.2 _ (by omega))⟩
theorem c_R_marksOf {l : Launch} {h : Nat} {mi : TMi} {ml : TMl} {z : Nat} {a : Ln} {d : Dt} {b : Nat} {x : Int32} {wo : Nat → Option Nat} {Q : Int32 → TMi → TMl → Nat → Prop} (hA : RA mi a d) (hb : b < nB a) (hw : isW (mi 129) (nB a) (nR a) wo) (hq : ∀ mi', FQ mi mi' → Q (nI (enc (hdM a d b wo) 10)) mi' ml z) : CI l (h + 5) m_R_marksOf [.ref 119, .int x, .int (nI b)] mi ml z Q := by
  have ha := hA.1
  have hB6 := ha.1
  have hin : vp_in ((9 : Int32) + nI b) 4113 := in_addL (a := 9) (by omega) (by decide)
  refine t_R_marksOf mi ml z _ _ ⟨hin, ?_⟩
  rw [addL_cl 9 b (by omega)]
  refine loop (P := fun k => ∀ m, FM b mi m → Ev l (h + 5) m_R_marksOf 16 ([.ref 119, .retAddr 0, .int (nI b), .int (mi 120 (9 + b)), .int (nI (enc (hdM a d b wo) k)), .int (nI k)], [], st m ml z) (qI Q)) 10 (fun m F => ?_) (fun k hk ih m F => ?_) mi (FM.refl _ _)
  · refine t_R_marksOf_16 m ml z _ _ _ _ ⟨fun _ => ⟨hin, ?_⟩, fun c => absurd (by decide) c⟩
    rw [addL_cl 9 b (by omega)]
    exact hq _ ((F.trans (FM.up b m _)).q (up_at _ _ _ _)).1
  · refine t_R_marksOf_16 m ml z _ _ _ _ ⟨fun c => absurd c (ge_no (N := 10) rfl (by decide) hk), fun _ => ⟨hin, ?_⟩⟩
    rw [addL_cl 9 b (by omega)]
    have F1 := F.trans (FM.up b m (nI k))
    have hA1 := hA.mark hb (show k ≤ 9 by omega) F1 (up_at _ _ _ _)
    generalize up m 120 (9 + b) (nI k) = m1 at F1 hA1 ⊢
    refine c_laysLikes (a := mkL a b k) hA1.1 hA1.2.1.v hA1.2.2.2.1 hA1.2.2.2.2 (fun m2 F2 hl2 => ?_)
    have F2' := F1.trans (FM.of F2 (by simp))
    have hA2 : RA m2 (mkL a b k) d := hA1.q (FQ.of F2 (fun n hn => by simp; omega))
    have hH := hA2.rh hl2
    refine c_R_isHeld hH.1 hH.2.1 hH.2.2.1 hH.2.2.2.1 hH.b6 hH.b7 (wo := wo) (rm := dR d) (by rw [F2'.1 129 (by decide) (by decide) (by decide) (by decide) (by decide)]; exact hw) hH.2.2.2.2.2.2.2.2 ?_
    have eh : heldS (nB (mkL a b k)) (nR (mkL a b k)) (Lk m2 126) (Lk m2 127) (dR d) wo = hdM a d b wo k := heldS_congr (fun x r hx e => (hw x hx).2 r e) hl2
    rw [eh, bI_0, nI_1]
    refine ⟨fun c => ?_, fun c => ?_⟩
    · rw [Int32.or_zero, enc_skip c]
      exact ih m2 F2'
    · rw [enc10 (p := hdM a d b wo) hk (by simpa using c)]
      exact ih m2 F2'
theorem bit10 : ∀ m, m < 1024 → ∀ k, k < 10 → (nI m >>> (nI k &&& 31)) &&& 1 = nI (if tb m k = true then 1 else 0) := by decide +kernel
theorem c_R_marksIn {l : Launch} {h : Nat} {mi : TMi} {ml : TMl} {z : Nat} {p : Nat → Bool} {Q : Int32 → TMi → TMl → Nat → Prop} (hq : Q (nI (cnt p 10)) mi ml z) : CI l (h + 1) m_R_marksIn [.int (nI (enc p 10))] mi ml z Q := by
  refine t_R_marksIn mi ml z _ ?_
  have hlt := enc_lt p 10
  refine loop (P := fun k => Ev l (h + 1) m_R_marksIn 4 ([.int (nI (enc p 10)), .int (nI (cnt p k)), .int (nI k)], [], st mi ml z) (qI Q)) 10 ?_ (fun k hk ih => ?_)
  · exact t_R_marksIn_4 mi ml z _ _ _ ⟨fun _ => hq, fun c => absurd (by decide) c⟩
  · refine t_R_marksIn_4 mi ml z _ _ _ ⟨fun c => absurd c (ge_no (N := 10) rfl (by decide) hk), fun _ => ?_⟩
    have e : (nI (enc p 10) >>> (nI k &&& 31)) &&& 1 = nI (if p k = true then 1 else 0) := by
      rw [bit10 _ hlt k hk, enc_tb p 10 k hk]
    rw [e, nI_1, nI_add]
    by_cases q : p k = true
    · simp only [cnt, q, if_true] at ih ⊢; exact ih
    · simp only [cnt, q, if_false] at ih ⊢; exact ih
