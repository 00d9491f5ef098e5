/-! ===== the fullest choice, on both sides ===== -/
theorem find_congr {p q : Nat → Bool} : ∀ {ls : List Nat}, (∀ x, x ∈ ls → p x = q x) → ls.find? p = ls.find? q
  | [], _ => rfl
  | y :: ys, h => by
    simp only [List.find?]
    rw [h y (by simp), find_congr (ls := ys) (fun x hx => h x (by simp [hx]))]
def fx (B R : Nat) (L T : Nat → Nat → Int) (rm : Nat → Nat) (c : Nat) : Bool := digs R c && (alln (wnt L T (chW c)) B && fits B R rm (chW c))
def idn (n c : Nat) : Nat := cnt (fun b => decide (chW c b = none)) n
def fxl (B R : Nat) (L T : Nat → Nat → Int) (rm : Nat → Nat) (n : Nat) : List Nat := (List.range n).filter (fx B R L T rm)
theorem fxl_s {B R : Nat} {L T : Nat → Nat → Int} {rm : Nat → Nat} {n : Nat} : fxl B R L T rm (n + 1) = fxl B R L T rm n ++ (if fx B R L T rm n = true then [n] else []) := by
  unfold fxl
  rw [List.range_succ, List.filter_append]
  congr 1
  by_cases q : fx B R L T rm n = true
  · simp [q]
  · simp [q]
theorem fr_find {g : Nat → Nat} : ∀ (ls ys : List Nat) (x : Option (Nat × Nat)), (match x with | none => ys = [] | some (c, n) => g c = n ∧ (∀ y, y ∈ ys → n ≤ g y) ∧ ys.find? (fun y => decide (g y ≤ n)) = some c) →
    (match ls.foldl (frs g) x with | none => ys ++ ls = [] | some (c, n) => g c = n ∧ (∀ y, y ∈ ys ++ ls → n ≤ g y) ∧ (ys ++ ls).find? (fun y => decide (g y ≤ n)) = some c)
  | [], ys, x, h => by simpa using h
  | z :: zs, ys, x, h => by
    simp only [List.foldl]
    have key := fr_find (g := g) zs (ys ++ [z]) (frs g x z) (by
      cases x with
      | none =>
        dsimp only at h
        subst h
        simp [frs]
      | some p =>
        obtain ⟨c, n⟩ := p
        dsimp only at h
        obtain ⟨h1, h2, h3⟩ := h
        simp only [frs]
        by_cases q : g z < n
        · rw [if_pos q]
          refine ⟨rfl, fun y hy => ?_, ?_⟩
          · rw [List.mem_append, List.mem_singleton] at hy
            rcases hy with hy | hy
            · have := h2 y hy; omega
            · rw [hy]; exact Nat.le_refl _
          · rw [List.find?_append, List.find?_eq_none.mpr (fun y hy => by have := h2 y hy; simp; omega)]
            simp [List.find?]
        · rw [if_neg q]
          refine ⟨h1, fun y hy => ?_, ?_⟩
          · rw [List.mem_append, List.mem_singleton] at hy
            rcases hy with hy | hy
            · exact h2 y hy
            · rw [hy]; omega
          · rw [List.find?_append, h3]; rfl)
    rw [List.append_assoc] at key
    exact key
abbrev fxA (a : Ln) (d : Dt) : List Nat := fxl (nB a) (nR a) (lkD a d) (tkD a d) (dR d) (5 ^ nB a)
def fuA (a : Ln) (d : Dt) : Option (Nat × Nat) := fr (idn (nB a)) (fxA a d)
theorem fx_congr {B R : Nat} {L T L' T' : Nat → Nat → Int} {rm : Nat → Nat} {c : Nat} (hB6 : B ≤ 6) (h : Like B R L T L' T') : fx B R L T rm c = fx B R L' T' rm c := by
  unfold fx
  cases e : digs R c
  · rfl
  · congr 2
    refine alln_congr (fun b hb => ?_)
    unfold wnt
    cases e2 : chW c b with
    | none => rfl
    | some r => exact h.1 b r hb (digs_lt (by omega) e e2)
theorem fxl_congr {B R : Nat} {L T L' T' : Nat → Nat → Int} {rm : Nat → Nat} {n : Nat} (hB6 : B ≤ 6) (h : Like B R L T L' T') : fxl B R L T rm n = fxl B R L' T' rm n := by
  unfold fxl
  exact List.filter_congr (fun c _ => fx_congr hB6 h)
theorem c_R_fullest {l : Launch} {h : Nat} {mi : TMi} {ml : TMl} {z : Nat} {a : Ln} {d : Dt} {Q : Int32 → TMi → TMl → Nat → Prop} (hA : RA mi a d)
    (hq : ∀ mi', FQ mi mi' → Q (frN (fuA a d)) mi' ml z) : CI l (h + 4) m_R_fullest [.ref 119] mi ml z Q := by
  have F0 : FQ mi (up mi 119 0 0) := FQ.u119 _ _ (by decide)
  have hA0 := hA.q F0
  have ha := hA.1
  have hB6 := ha.1
  have hR4 := ha.2.1
  refine t_R_fullest mi ml z (c_laysLikes ha hA.2.1.v hA0.2.2.2.1 hA0.2.2.2.2 (fun m1 F1 hl1 => ?_))
  have F01 : FQ mi m1 := F0.trans (FQ.of F1 (fun n hn => by simp; omega))
  have hA1 := hA.q F01
  have hH := hA1.rh hl1
  have h5 := pow5 hB6
  unfold fuA at hq
  rw [show fxA a d = fxl (nB a) (nR a) (Lk m1 126) (Lk m1 127) (dR d) (5 ^ nB a) from fxl_congr hB6 hl1.like.symm] at hq
  generalize Lk m1 126 = L at hH hq
  generalize Lk m1 127 = T at hH hq
  have vst : ∀ x : Option (Nat × Nat), ∃ v : Int32, v = match x with | none => (-1 : Int32) | some (_, n) => nI (nB a - n) := fun x => ⟨_, rfl⟩
  refine loop (P := fun i => ∀ m, FQ m1 m → RH m (nB a) (nR a) L T (dR d) → Ev l (h + 4) m_R_fullest 15 ([.ref 119, .int (frN (fr (idn (nB a)) (fxl (nB a) (nR a) L T (dR d) i))), .int (match fr (idn (nB a)) (fxl (nB a) (nR a) L T (dR d) i) with | none => (-1 : Int32) | some (_, n) => nI (nB a - n)), .int (nI i), .retAddr 0], [], st m ml z) (qI Q)) (5 ^ nB a) (fun m F hHm => ?_) (fun i hi ih m F hHm => ?_) m1 (FQ.refl _) hH
  · exact t_R_fullest_15 m ml z _ _ _ (c_R_choicesIn hHm.1 hB6 ⟨fun _ => hq m (F01.trans F), fun c => absurd (le_at (N := 5 ^ nB a) rfl (by omega)) c⟩)
  · refine t_R_fullest_15 m ml z _ _ _ (c_R_choicesIn hHm.1 hB6 ⟨fun c => absurd c (ge_no (N := 5 ^ nB a) rfl (by omega) hi), fun _ => c_R_laysChoice hHm.2.2.1 hR4 (show i < 2 ^ 31 by omega) (fun m2 F2 hw2 => ?_)⟩)
    have F2q : FQ m m2 := FQ.of F2 (fun n hn => by simp; omega)
    have hH2 := hHm.fr (mi' := m2) (F2 120 (by decide)) (F2 126 (by decide)) (F2 127 (by decide))
    have ih := ih m2 (F.trans F2q) hH2
    rw [fxl_s] at ih
    rw [nI_1, bI_0]
    have skip : fx (nB a) (nR a) L T (dR d) i = false → Ev l (h + 4) m_R_fullest 15 ([.ref 119, .int (frN (fr (idn (nB a)) (fxl (nB a) (nR a) L T (dR d) i))), .int (match fr (idn (nB a)) (fxl (nB a) (nR a) L T (dR d) i) with | none => (-1 : Int32) | some (_, n) => nI (nB a - n)), .int (nI (i + 1)), .retAddr 0], [], st m2 ml z) (qI Q) := fun e => by
      rw [e, if_neg (by decide), List.append_nil] at ih
      exact ih
    refine ⟨fun c => skip (by simp [fx, c]), fun c => ?_⟩
    have c' : digs (nR a) i = true := by simpa using c
    have hiw : isW (m2 129) (nB a) (nR a) (chW i) := fun b hb => ⟨hw2 c' b (by omega), fun r e => digs_lt (by omega) c' e⟩
    refine c_R_isWanted hH2.1 hB6 hR4 hiw ?_
    rw [bI_0, hH2.2.2.2.2.1, hH2.2.2.2.2.2.1]
    refine ⟨fun c2 => skip (by simp [fx, c2]), fun c2 => c_R_fitsRooms hH2.1 hB6 hH2.2.2.1 hR4 hiw hH2.2.2.2.2.2.2.2.2 ?_⟩
    rw [bI_0]
    refine ⟨fun c3 => c_R_becksBy hH2.1 hB6 ?_, fun c3 => skip (by simp [fx, c3])⟩
    have en : enc (fun b => m2 129 b == -1) (nB a) = enc (fun b => decide (chW i b = none)) (nB a) := enc_congr (fun b hb => by rw [isW_none hiw hR4 hb]; cases chW i b <;> rfl)
    rw [en]
    refine c_R_bitsOf (enc_64 _ hB6) ?_
    rw [pop_enc _ hB6, hH2.1]
    have hcl := cnt_le (fun b => decide (chW i b = none)) (nB a)
    have efx : fx (nB a) (nR a) L T (dR d) i = true := by simp at c2 c3; simp [fx, c', c2, c3]
    rw [efx, if_pos rfl, fr_s, frs_lt (o := nB a + 1) (by unfold idn; omega)] at ih
    have esub : nI (nB a) - nI (cnt (fun b => decide (chW i b = none)) (nB a)) = nI (nB a - idn (nB a) i) := by
      apply Int32.toInt_inj.mp
      unfold idn
      rw [Int32.toInt_sub, nI_toInt (by omega), nI_toInt (by omega), nI_toInt (by omega)]
      rw [show ((nB a : Nat) : Int) - ((cnt (fun b => decide (chW i b = none)) (nB a) : Nat) : Int) = ((nB a - cnt (fun b => decide (chW i b = none)) (nB a) : Nat) : Int) by omega]
      exact Int.bmod_eq_of_le (by omega) (by omega)
    rw [esub]
    have hid : idn (nB a) i ≤ nB a := hcl
    cases ex : fr (idn (nB a)) (fxl (nB a) (nR a) L T (dR d) i) with
    | none =>
      rw [ex] at ih
      rw [if_pos (by simp only [frR]; omega)] at ih
      refine ⟨fun _ => ih, fun q => absurd ?_ q⟩
      show (-1 : Int32) < nI (nB a - idn (nB a) i)
      rw [Int32.lt_iff_toInt_lt, nI_toInt (by omega)]
      have : (-1 : Int32).toInt = -1 := by decide
      omega
    | some p =>
      obtain ⟨c0, n0⟩ := p
      rw [ex] at ih
      have hn0 : n0 ≤ nB a := by
        have := fr_find (g := idn (nB a)) (fxl (nB a) (nR a) L T (dR d) i) [] none rfl
        unfold fr at ex
        rw [ex] at this
        have e1 := this.1
        have := cnt_le (fun b => decide (chW c0 b = none)) (nB a)
        unfold idn at e1
        omega
      show (nI (nB a - n0) < nI (nB a - idn (nB a) i) → _) ∧ (¬ nI (nB a - n0) < nI (nB a - idn (nB a) i) → _)
      rw [nI_ltI (by omega) (by omega)]
      refine ⟨fun q => ?_, fun q => ?_⟩
      · rw [if_pos (by simp only [frR]; omega)] at ih
        exact ih
      · rw [if_neg (by simp only [frR]; omega)] at ih
        exact ih
/-! the class's side -/
def PF (a : Ln) (d : Dt) (n k c : Nat) : Bool := fx (nB a) (nR a) (lkD a d) (tkD a d) (dR d) c && decide (idn n c ≤ k)
def PlF (mi : TMi) (a : Ln) (d : Dt) (n c : Nat) : Prop := c % 5 ^ n = 0 ∧ c + 5 ^ n ≤ 5 ^ nB a ∧ (∀ b, n ≤ b → b < nB a → mi 64 b = oI (chW c b)) ∧ (∀ r, r < 4 → mi 65 r = nI (cnt (inn (chW c) r) (nB a))) ∧ (∀ b r, chW c b = some r → r < nR a ∧ wdO (lkD a d) (tkD a d) b r = true) ∧ ∀ r, r < nR a → cnt (inn (chW c) r) (nB a) ≤ dR d r
theorem fx_iff {a : Ln} {d : Dt} {c : Nat} (ha : okLn a) (hc : c < 5 ^ nB a) : fx (nB a) (nR a) (lkD a d) (tkD a d) (dR d) c = true ↔ (∀ b r, b < nB a → chW c b = some r → r < nR a ∧ wdO (lkD a d) (tkD a d) b r = true) ∧ ∀ r, r < nR a → cnt (inn (chW c) r) (nB a) ≤ dR d r := by
  have hB6 := ha.1
  unfold fx
  rw [Bool.and_eq_true, Bool.and_eq_true]
  constructor
  · rintro ⟨h1, h2, h3⟩
    refine ⟨fun b r hb e => ⟨digs_lt (by omega) h1 e, ?_⟩, fun r hr => ?_⟩
    · have := alln_iff.mp h2 b hb
      unfold wnt at this
      rw [e] at this
      exact this
    · have := alln_iff.mp h3 r hr
      simpa using this
  · rintro ⟨h1, h2⟩
    refine ⟨alln_iff.mpr (fun b hb => ?_), alln_iff.mpr (fun b hb => ?_), alln_iff.mpr (fun r hr => by rw [decide_eq_true_eq]; exact h2 r hr)⟩
    · rw [decide_eq_true_eq]
      by_cases q : b < nB a
      · cases e : c / 5 ^ b % 5 with
        | zero => omega
        | succ k => have := (h1 b k q (by unfold chW; rw [e]; rfl)).1; omega
      · rw [dig_hi hc (by omega)]; omega
    · unfold wnt
      cases e : chW c b with
      | none => rfl
      | some r => exact (h1 b r hb e).2
theorem c_Sv_fillsFrom {l : Launch} {ml : TMl} {a : Ln} {d : Dt} : ∀ (n : Nat) {h k : Nat} {mi : TMi} {c : Nat} {Q : Int32 → TMi → TMl → Nat → Prop}, n ≤ nB a → k ≤ 6 → CA mi a d → PlF mi a d n c →
    ((List.range' c (5 ^ n)).find? (PF a d n k) = none → ∀ mi', Fr [64, 65] mi mi' → (∀ b, n ≤ b → mi' 64 b = mi 64 b) → (∀ r, r < 4 → mi' 65 r = mi 65 r) → Q 0 mi' ml 17) →
    (∀ c', (List.range' c (5 ^ n)).find? (PF a d n k) = some c' → ∀ mi', Fr [64, 65] mi mi' → (∀ b, b < nB a → mi' 64 b = oI (chW c' b)) → Q 1 mi' ml 17) → CI l (h + n + 3) m_Sv_fillsFrom [.ref 60, .int (nI n - 1), .int (nI k)] mi ml 17 Q := by
  intro n
  induction n with
  | zero =>
    intro h k mi c Q hn hk hA hp hq0 hq1
    obtain ⟨p1, p2, p3, p4, p5, p6⟩ := hp
    have ha := hA.1
    rw [Nat.pow_zero] at p2
    refine t_Sv_fillsFrom mi ml _ _ ⟨fun c => absurd c (by decide), fun _ => hq1 c ?_ mi (Fr.refl _ _) (fun b hb => p3 b (Nat.zero_le _) hb)⟩
    have : PF a d 0 k c = true := by
      unfold PF
      rw [(fx_iff ha (by omega)).mpr ⟨fun b r _ e => p5 b r e, p6⟩]
      simp [idn, cnt]
    simp [List.range'_one, List.find?, this]
  | succ n ih =>
    intro h k mi c Q hn hk hA hp hq0 hq1
    obtain ⟨p1, p2, p3, p4, p5, p6⟩ := hp
    have ha := hA.1
    have hB6 := ha.1
    have hR4 := ha.2.1
    have hin : vp_in (nI n) 6 := in_nI (by omega) (by decide)
    have hp5 : 5 ^ (n + 1) = 5 * 5 ^ n := by rw [Nat.pow_succ, Nat.mul_comm]
    have hcn : chW c n = none := chW_low p1 (by omega)
    have hbn : n < nB a := by omega
    have hle : ∀ k, k ≤ 4 → c + k * 5 ^ n + 5 ^ n ≤ 5 ^ nB a := fun k hk => by
      have : k * 5 ^ n ≤ 4 * 5 ^ n := Nat.mul_le_mul_right _ hk
      omega
    have hdig : ∀ k x, k ≤ 4 → x < 5 ^ n → chW (c + k * 5 ^ n + x) n = undg k := fun k x hk hx => by
      rw [dig_top (mod_pow p1) hx (Nat.le_refl _)]
      cases k with
      | zero => rw [Nat.zero_mul, Nat.add_zero, hcn]; rfl
      | succ r => rw [chW_put p1 (by omega)]; simp [undg]
    have hsplit : ∀ j, (List.range' c ((j + 1) * 5 ^ n)).find? (PF a d (n + 1) k) = ((List.range' c (j * 5 ^ n)).find? (PF a d (n + 1) k)).or ((List.range' (c + j * 5 ^ n) (5 ^ n)).find? (PF a d (n + 1) k)) := fun j => by
      rw [← List.find?_append, List.range'_append_1, Nat.add_mul, Nat.one_mul]
    have hidn : ∀ c', idn (n + 1) c' = idn n c' + (if chW c' n = none then 1 else 0) := fun c' => by
      simp only [idn, cnt]
      by_cases q : chW c' n = none
      · simp [q]
      · simp [q]
    have htail : ∀ j x, j ≤ 5 → (List.range' c (j * 5 ^ n)).find? (PF a d (n + 1) k) = some x → (List.range' c (5 ^ (n + 1))).find? (PF a d (n + 1) k) = some x := fun j x hj e => by
      have : ∀ i, j + i ≤ 5 → (List.range' c ((j + i) * 5 ^ n)).find? (PF a d (n + 1) k) = some x := fun i => by
        induction i with
        | zero => intro _; exact e
        | succ i ihi => intro hi; rw [show j + (i + 1) = (j + i) + 1 by omega, hsplit, ihi (by omega)]; rfl
      have := this (5 - j) (by omega)
      rw [show j + (5 - j) = 5 by omega, ← hp5] at this
      exact this
    rw [sub1 (show 0 < n + 1 by omega) (by omega), Nat.add_sub_cancel]
    refine t_Sv_fillsFrom mi ml _ _ ⟨fun _ => ⟨hin, ?_⟩, fun q => absurd ((nI_leI (a := 0) (b := n) (by decide) (by omega)).mpr (Nat.zero_le _)) q⟩
    rw [cl_nI (show n < 2 ^ 31 by omega)]
    have F1 : Fr [64, 65] mi (up mi 64 n (-1)) := (Fr_up _ _ _ _).weak (by simp)
    have hA1 : CA (up mi 64 n (-1)) a d := hA.of F1 (by simp)
    have g64 : ∀ b, ¬ b = n → (up mi 64 n (-1)) 64 b = mi 64 b := fun b k => up_nk _ _ _ k
    have g64n : (up mi 64 n (-1)) 64 n = -1 := up_at _ _ _ _
    have g65 : (up mi 64 n (-1)) 65 = mi 65 := up_ne _ _ _ (by decide)
    generalize up mi 64 n (-1) = m1 at F1 hA1 g64 g64n g65 ⊢
    have rivers : ∀ m2, Fr [64, 65] m1 m2 → (∀ b, n + 1 ≤ b → m2 64 b = mi 64 b) → (∀ r, r < 4 → m2 65 r = mi 65 r) → (List.range' c (1 * 5 ^ n)).find? (PF a d (n + 1) k) = none → Ev l (h + (n + 1) + 3) m_Sv_fillsFrom 34 ([.ref 60, .int (nI n), .int (nI k), .int 0], [], st m2 ml 17) (qI Q) := fun m2 F2 j4 j5 jn => by
      refine loop (P := fun i => ∀ m, Fr [64, 65] m1 m → (∀ b, n + 1 ≤ b → m 64 b = mi 64 b) → (∀ r, r < 4 → m 65 r = mi 65 r) → (List.range' c ((i + 1) * 5 ^ n)).find? (PF a d (n + 1) k) = none → Ev l (h + (n + 1) + 3) m_Sv_fillsFrom 34 ([.ref 60, .int (nI n), .int (nI k), .int (nI i)], [], st m ml 17) (qI Q)) (nR a) (fun m F h4 h5 hn0 => ?_) (fun i hi ihi m F h4 h5 hn0 => ?_) m2 F2 j4 j5 jn
      · have hAm : CA m a d := hA1.of F (by simp)
        refine t_Sv_fillsFrom_34 m ml _ _ _ ⟨fun _ => hq0 ?_ m (F1.step F) h4 h5, fun c => absurd (le_at hAm.2.2.1.2.1 (by omega)) c⟩
        have : ∀ j, nR a + 1 + j ≤ 5 → (List.range' c ((nR a + 1 + j) * 5 ^ n)).find? (PF a d (n + 1) k) = none := fun j => by
          induction j with
          | zero => intro _; exact hn0
          | succ j ihj =>
            intro hj
            rw [show nR a + 1 + (j + 1) = (nR a + 1 + j) + 1 by omega, hsplit, ihj (by omega)]
            rw [Option.none_or, List.find?_eq_none]
            intro y hy hpf
            rw [List.mem_range'_1] at hy
            have h1 := hle (nR a + 1 + j) (by omega)
            have hd := hdig (nR a + 1 + j) (y - (c + (nR a + 1 + j) * 5 ^ n)) (by omega) (by omega)
            rw [show c + (nR a + 1 + j) * 5 ^ n + (y - (c + (nR a + 1 + j) * 5 ^ n)) = y by omega] at hd
            unfold PF at hpf
            rw [Bool.and_eq_true] at hpf
            have := (((fx_iff ha (by omega)).mp hpf.1).1 n (nR a + j) hbn (by rw [hd, show nR a + 1 + j = (nR a + j) + 1 by omega]; rfl)).1
            omega
        have := this (4 - nR a) (by omega)
        rw [show nR a + 1 + (4 - nR a) = 5 by omega, ← hp5] at this
        exact this
      · have hAm : CA m a d := hA1.of F (by simp)
        have hin4 : vp_in (nI i) 4 := in_nI (by omega) (by decide)
        have hseg : ∀ y, y ∈ List.range' (c + (i + 1) * 5 ^ n) (5 ^ n) → y < 5 ^ nB a ∧ chW y n = some i ∧ ∀ b, n + 1 ≤ b → chW y b = chW c b := fun y hy => by
          rw [List.mem_range'_1] at hy
          have h1 := hle (i + 1) (by omega)
          have hd := hdig (i + 1) (y - (c + (i + 1) * 5 ^ n)) (by omega) (by omega)
          rw [show c + (i + 1) * 5 ^ n + (y - (c + (i + 1) * 5 ^ n)) = y by omega] at hd
          refine ⟨by omega, hd, fun b hb => ?_⟩
          have := dig_top (n := n) (c := c + (i + 1) * 5 ^ n) (x := y - (c + (i + 1) * 5 ^ n)) (b := b) (mod_pow p1) (by omega) (by omega)
          rw [show c + (i + 1) * 5 ^ n + (y - (c + (i + 1) * 5 ^ n)) = y by omega] at this
          rw [this, chW_put p1 (by omega)]
          simp [show ¬ b = n by omega]
        have skip : (∀ y, y ∈ List.range' (c + (i + 1) * 5 ^ n) (5 ^ n) → ¬ fx (nB a) (nR a) (lkD a d) (tkD a d) (dR d) y = true) → Ev l (h + (n + 1) + 3) m_Sv_fillsFrom 34 ([.ref 60, .int (nI n), .int (nI k), .int (nI i + 1)], [], st m ml 17) (qI Q) := fun hno => by
          rw [nI_1]
          refine ihi m F h4 h5 ?_
          rw [hsplit, hn0, Option.none_or, List.find?_eq_none]
          intro y hy hpf
          unfold PF at hpf
          rw [Bool.and_eq_true] at hpf
          exact hno y hy hpf.1
        refine t_Sv_fillsFrom_34 m ml _ _ _ ⟨fun c => absurd c (ge_no hAm.2.2.1.2.1 (by omega) hi), fun _ => ?_⟩
        refine c_Sc_bothWould_17 (h := h + n + 2) hB6 hR4 hAm.2.2.2.2 hbn hi ⟨rfl, ?_⟩
        rw [bI_0]
        refine ⟨fun q1 => skip (fun y hy hf => ?_), fun q1 => ⟨hin4, t_Sc_roomOf_17 _ _ _ _ ⟨in_addL (a := 12) (by omega) (by decide), rfl, ?_⟩⟩⟩
        · have hs := hseg y hy
          have := (((fx_iff ha hs.1).mp hf).1 n i hbn hs.2.1).2
          rw [this] at q1; cases q1
        · rw [addL_cl 12 i (by omega), cl_nI (show i < 2 ^ 31 by omega), cl_nI (show n < 2 ^ 31 by omega), (hAm.rm i hi).1, h5 i (by omega), p4 i (by omega)]
          have hcl := cnt_le (inn (chW c) i) (nB a)
          have hr6 := (hAm.rm i hi).2
          rw [nI_leI (by omega) (by omega)]
          have hput := chW_put (n := n) (c := c) (r := i) p1 (by omega)
          have hca := cnt_add (wo := chW c) (b := n) (r := i) (B := nB a) hbn (by rw [hcn]; simp)
          refine ⟨fun q2 => skip (fun y hy hf => ?_), fun q2 => ⟨hin, hin4, hin4, ?_⟩⟩
          · have hs := hseg y hy
            have h1 := ((fx_iff ha hs.1).mp hf).2 i hi
            have h2 : cnt (inn (fun j => if j = n then some i else chW c j) i) (nB a) ≤ cnt (inn (chW y) i) (nB a) := cnt_mono (fun b hb hbi => by
              by_cases k : b = n
              · subst k; simp [inn, hs.2.1]
              · simp [inn, k] at hbi
                by_cases k2 : b < n
                · rw [chW_low p1 (by omega)] at hbi; cases hbi
                · simp [inn, hs.2.2 b (by omega), hbi])
            omega
          · rw [up_ne _ _ _ (show 65 ≠ 64 by decide), h5 i (by omega), p4 i (by omega), nI_1, ← hca, ← hput]
            have F2' : Fr [64, 65] m (up (up m 64 n (nI i)) 65 i (nI (cnt (inn (chW (c + (i + 1) * 5 ^ n)) i) (nB a)))) := ((Fr_up _ _ _ _).weak (by simp)).step ((Fr_up _ _ _ _).weak (by simp))
            have e64 : ∀ b, (up (up m 64 n (nI i)) 65 i (nI (cnt (inn (chW (c + (i + 1) * 5 ^ n)) i) (nB a)))) 64 b = if b = n then nI i else m 64 b := fun b => by
              rw [up_ne _ _ _ (by decide)]
              by_cases k : b = n
              · subst k; rw [up_at, if_pos rfl]
              · rw [up_nk _ _ _ k, if_neg k]
            have e65 : ∀ r, (up (up m 64 n (nI i)) 65 i (nI (cnt (inn (chW (c + (i + 1) * 5 ^ n)) i) (nB a)))) 65 r = if r = i then nI (cnt (inn (chW (c + (i + 1) * 5 ^ n)) i) (nB a)) else m 65 r := fun r => by
              by_cases k : r = i
              · subst k; rw [up_at, if_pos rfl]
              · rw [up_nk _ _ _ k, if_neg k, up_ne _ _ _ (by decide)]
            generalize up (up m 64 n (nI i)) 65 i (nI (cnt (inn (chW (c + (i + 1) * 5 ^ n)) i) (nB a))) = m3 at F2' e64 e65 ⊢
            have hA3 : CA m3 a d := hAm.of F2' (by simp)
            have hpl : PlF m3 a d n (c + (i + 1) * 5 ^ n) := by
              refine ⟨mod_pow p1, hle (i + 1) (by omega), fun b hb1 hb2 => ?_, fun r hr => ?_, fun b r e => ?_, fun r hr => ?_⟩
              · rw [e64, hput]
                by_cases k : b = n
                · rw [if_pos k]; simp only [k, if_true]; rfl
                · rw [if_neg k]; simp only [k, if_false]; rw [h4 b (by omega)]; exact p3 b (by omega) hb2
              · rw [e65]
                by_cases k : r = i
                · subst k; rw [if_pos rfl]
                · rw [if_neg k, h5 r hr, p4 r hr, hput, inn_ne hcn k]
              · rw [hput] at e
                by_cases k : b = n
                · simp only [k, if_true] at e; cases e; rw [k]; exact ⟨hi, by simpa using q1⟩
                · simp only [k, if_false] at e; exact p5 b r e
              · rw [hput]
                by_cases k : r = i
                · subst k; rw [hca]; omega
                · rw [inn_ne hcn k]; exact p6 r hr
            have econv : (List.range' (c + (i + 1) * 5 ^ n) (5 ^ n)).find? (PF a d n k) = (List.range' (c + (i + 1) * 5 ^ n) (5 ^ n)).find? (PF a d (n + 1) k) := find_congr (fun y hy => by
              unfold PF
              rw [hidn, (hseg y hy).2.1]
              simp)
            have := ih (h := h) (k := k) (mi := m3) (c := c + (i + 1) * 5 ^ n) (Q := fun x10 mi10 ml10 z10 => z10 = 17 ∧ ((x10 = 0 → (vp_in (nI i) 4) ∧ (vp_in (nI i) 4) ∧ Ev l (h + (n + 1) + 3) m_Sv_fillsFrom 34 ([.ref 60, .int (nI n), .int (nI k), .int (nI i + 1)], [], st (up mi10 65 i ((mi10 65 i) - 1)) ml10 17) (qI Q)) ∧ (¬ x10 = 0 → Q 1 mi10 ml10 17))) (by omega) hk hA3 hpl (fun hf m4 F4 k4 k5 => ⟨rfl, fun _ => ⟨hin4, hin4, ?_⟩, fun q => absurd rfl q⟩) (fun c' hf m4 F4 k4 => ⟨rfl, fun q => absurd q (by decide), fun _ => hq1 c' ?_ m4 (((F1.step F).step F2').step F4) k4⟩)
            · exact this
            · rw [nI_1, k5 i (by omega), e65, if_pos rfl, hput, hca, sub1 (by omega) (by omega), Nat.add_sub_cancel]
              rw [econv] at hf
              refine ihi _ (((F.step F2').step F4).step ((Fr_up _ _ _ _).weak (by simp))) (fun b hb => ?_) (fun r hr => ?_) (by rw [hsplit, hn0, hf]; rfl)
              · rw [up_ne _ _ _ (by decide), k4 b (by omega), e64, if_neg (by omega)]; exact h4 b hb
              · by_cases k : r = i
                · subst k; rw [up_at, p4 r hr]
                · rw [up_nk _ _ _ k, k5 r hr, e65, if_neg k]; exact h5 r hr
            · rw [econv] at hf
              exact htail (i + 2) c' (by omega) (by rw [show i + 2 = (i + 1) + 1 by omega, hsplit, hn0, hf]; rfl)
    have h0 : c % 5 ^ n = 0 := by have := mod_pow (k := 0) p1; rwa [Nat.zero_mul, Nat.add_zero] at this
    have hd0 : ∀ y, y ∈ List.range' c (5 ^ n) → chW y n = none := fun y hy => by
      rw [List.mem_range'_1] at hy
      have hd := hdig 0 (y - c) (by omega) (by omega)
      rw [show c + 0 * 5 ^ n + (y - c) = y by omega] at hd
      exact hd
    show (nI k ≤ nI 0 → _) ∧ (¬ nI k ≤ nI 0 → _)
    rw [nI_leI (by omega) (by decide)]
    refine ⟨fun q => rivers m1 (Fr.refl _ _) (fun b hb => g64 b (by omega)) (fun r hr => by rw [g65]) ?_, fun q => ?_⟩
    · rw [Nat.one_mul, List.find?_eq_none]
      intro y hy hpf
      unfold PF at hpf
      rw [Bool.and_eq_true, hidn, hd0 y hy, if_pos rfl, decide_eq_true_eq] at hpf
      omega
    · rw [sub1 (n := k) (by omega) (by omega)]
      have econv : (List.range' c (5 ^ n)).find? (PF a d n (k - 1)) = (List.range' c (5 ^ n)).find? (PF a d (n + 1) k) := find_congr (fun y hy => by
        unfold PF
        rw [hidn, hd0 y hy, if_pos rfl]
        congr 1
        apply decide_eq_decide.mpr
        omega)
      have := ih (h := h) (k := k - 1) (mi := m1) (c := c) (Q := fun x4 mi4 ml4 z4 => z4 = 17 ∧ ((x4 = 0 → Ev l (h + (n + 1) + 3) m_Sv_fillsFrom 34 ([.ref 60, .int (nI n), .int (nI k), .int 0], [], st mi4 ml4 17) (qI Q)) ∧ (¬ x4 = 0 → Q 1 mi4 ml4 17))) (by omega) (by omega) hA1 ⟨h0, by have := hle 0 (by omega); omega, fun b hb1 hb2 => ?_, fun r hr => by rw [g65]; exact p4 r hr, p5, p6⟩ (fun hf m4 F4 k4 k5 => ⟨rfl, fun _ => ?_, fun q => absurd rfl q⟩) (fun c' hf m4 F4 k4 => ⟨rfl, fun q => absurd q (by decide), fun _ => hq1 c' ?_ m4 (F1.step F4) k4⟩)
      · exact this
      · by_cases k : b = n
        · subst k; rw [g64n, hcn]; rfl
        · rw [g64 b k]; exact p3 b (by omega) hb2
      · refine rivers m4 F4 (fun b hb => by rw [k4 b (by omega), g64 b (by omega)]) (fun r hr => by rw [k5 r hr, g65]) ?_
        rw [Nat.one_mul, ← econv]
        exact hf
      · rw [econv] at hf
        exact htail 1 c' (by omega) (by rw [Nat.one_mul]; exact hf)
