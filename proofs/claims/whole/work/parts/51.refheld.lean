/-! ===== the reference: all choices that hold ===== -/
theorem divN {v k : Nat} (hv : v < 2 ^ 31) (hk : 0 < k) (hk2 : k < 2 ^ 31) : nI v / nI k = nI (v / k) := by
  have h1 : v / k < 2 ^ 31 := Nat.lt_of_le_of_lt (Nat.div_le_self _ _) hv
  apply Int32.toInt_inj.mp
  rw [Int32.toInt_div, nI_toInt hv, nI_toInt hk2, nI_toInt h1]
  have e : (v : Int).tdiv (k : Int) = ((v / k : Nat) : Int) := by rw [Int.tdiv_eq_ediv_of_nonneg (by omega)]; rfl
  rw [e]
  clear e
  generalize v / k = q at h1 ⊢
  exact Int.bmod_eq_of_le (by omega) (by omega)
theorem remN {v k : Nat} (hv : v < 2 ^ 31) (hk : 0 < k) (hk2 : k < 2 ^ 31) : a_rem (nI v) (nI k) = nI (v % k) := by
  unfold a_rem
  have h1 : v / k * k ≤ v := Nat.div_mul_le_self v k
  have h2 : v % k < 2 ^ 31 := Nat.lt_of_le_of_lt (Nat.mod_le _ _) hv
  have h3 : v / k * k + v % k = v := Nat.div_add_mod' v k
  rw [divN hv hk hk2, show nI (v / k) * nI k = nI (v / k * k) from pk_mul _ _]
  apply Int32.toInt_inj.mp
  rw [Int32.toInt_sub, nI_toInt hv, nI_toInt (show v / k * k < 2 ^ 31 by omega), nI_toInt h2]
  generalize v / k * k = x at h1 h3 ⊢
  generalize v % k = y at h2 h3 ⊢
  rw [show (v : Int) - (x : Int) = (y : Int) by omega]
  exact Int.bmod_eq_of_le (by omega) (by omega)
theorem dig_oI : ∀ d, d < 5 → nI d - 1 = oI (undg d) := by
  intro d hd
  match d, hd with
  | 0, _ => decide
  | 1, _ => decide
  | 2, _ => decide
  | 3, _ => decide
  | 4, _ => decide
theorem oI_ltR {d R : Nat} (hd : d < 5) (hR : R ≤ 4) : oI (undg d) < nI R ↔ d ≤ R := by
  cases d with
  | zero =>
    have : oI (undg 0) = -1 := rfl
    rw [this, Int32.lt_iff_toInt_lt, nI_toInt (by omega)]
    have : (-1 : Int32).toInt = -1 := by decide
    omega
  | succ k => rw [show oI (undg (k + 1)) = nI k from rfl, nI_ltI (by omega) (by omega)]; omega
theorem c_R_laysChoice {l : Launch} {h : Nat} {mi : TMi} {ml : TMl} {z : Nat} {R c : Nat} {Q : Int32 → TMi → TMl → Nat → Prop} (hR : mi 120 2 = nI R) (hR4 : R ≤ 4) (hc : c < 2 ^ 31) (hq : ∀ mi', Fr [129] mi mi' → (digs R c = true → ∀ b, b < 6 → mi' 129 b = oI (chW c b)) → Q (bI (digs R c)) mi' ml z) : CI l (h + 1) m_R_laysChoice [.ref 119, .int (nI c)] mi ml z Q := by
  refine t_R_laysChoice mi ml z _ ?_
  have e0 : nI c = nI (c / 5 ^ 0) := by rw [Nat.pow_zero, Nat.div_one]
  rw [e0]
  refine loop (P := fun i => ∀ m, Fr [129] mi m → (∀ k, k < i → m 129 k = oI (chW c k) ∧ c / 5 ^ k % 5 ≤ R) → Ev l (h + 1) m_R_laysChoice 4 ([.ref 119, .retAddr 0, .int (nI (c / 5 ^ i)), .int (nI i)], [], st m ml z) (qI Q)) 6 (fun m F hk => ?_) (fun i hi ih m F hk => ?_) mi (Fr.refl _ _) (fun k hk => absurd hk (Nat.not_lt_zero _))
  · have hd : digs R c = true := alln_iff.mpr (fun b hb => by rw [decide_eq_true_eq]; exact (hk b hb).2)
    have := hq m F (fun _ b hb => (hk b hb).1)
    rw [hd] at this
    exact t_R_laysChoice_4 m ml z _ _ ⟨fun _ => this, fun c => absurd (by decide) c⟩
  · have hin : vp_in (nI i) 6 := in_nI hi (by decide)
    have hci : c / 5 ^ i < 2 ^ 31 := Nat.lt_of_le_of_lt (Nat.div_le_self _ _) hc
    have hd5 : c / 5 ^ i % 5 < 5 := Nat.mod_lt _ (by decide)
    refine t_R_laysChoice_4 m ml z _ _ ⟨fun c => absurd c (ge_no (N := 6) rfl (by decide) hi), fun _ => ⟨hin, hin, ?_⟩⟩
    rw [cl_nI (show i < 2 ^ 31 by omega), show (5 : Int32) = nI 5 from rfl, remN hci (by decide) (by decide), divN hci (by decide) (by decide), dig_oI _ hd5, up_at, up_ne _ _ _ (show 120 ≠ 129 by decide), F 120 (by decide), hR, oI_ltR hd5 hR4, nI_1, Nat.div_div_eq_div_mul, ← Nat.pow_succ]
    have F' : Fr [129] mi (up m 129 i (oI (undg (c / 5 ^ i % 5)))) := F.step (Fr_up _ _ _ _)
    refine ⟨fun q => ih _ F' (fun k hk' => ?_), fun q => ?_⟩
    · by_cases e : k = i
      · subst e; rw [up_at]; exact ⟨rfl, q⟩
      · rw [up_nk _ _ _ e]; exact hk k (by omega)
    · have hd : digs R c = false := alln_false hi (by rw [decide_eq_false_iff_not]; exact q)
      have := hq _ F' (fun k => by rw [hd] at k; cases k)
      rw [hd] at this
      exact this
theorem c_R_placeIn {l : Launch} {h : Nat} {mi : TMi} {ml : TMl} {z : Nat} {c b : Nat} {Q : Int32 → TMi → TMl → Nat → Prop} (hc : c < 2 ^ 31) (hb : b < 10) (hq : Q (oI (chW c b)) mi ml z) : CI l (h + 1) m_R_placeIn [.int (nI c), .int (nI b)] mi ml z Q := by
  refine t_R_placeIn mi ml z _ _ ?_
  have e0 : nI c = nI (c / 5 ^ 0) := by rw [Nat.pow_zero, Nat.div_one]
  rw [e0]
  have hci : ∀ i, c / 5 ^ i < 2 ^ 31 := fun i => Nat.lt_of_le_of_lt (Nat.div_le_self _ _) hc
  refine loop (P := fun i => Ev l (h + 1) m_R_placeIn 4 ([.retAddr 0, .int (nI b), .int (nI (c / 5 ^ i)), .int (nI i)], [], st mi ml z) (qI Q)) b ?_ (fun i hi ih => ?_)
  · refine t_R_placeIn_4 mi ml z _ _ _ ⟨fun _ => ?_, fun c => absurd (le_at (N := b) rfl (by omega)) c⟩
    rw [show (5 : Int32) = nI 5 from rfl, remN (hci b) (by decide) (by decide), dig_oI _ (Nat.mod_lt _ (by decide))]
    exact hq
  · refine t_R_placeIn_4 mi ml z _ _ _ ⟨fun c => absurd c (ge_no (N := b) rfl (by omega) hi), fun _ => ?_⟩
    rw [show (5 : Int32) = nI 5 from rfl, divN (hci i) (by decide) (by decide), nI_1, Nat.div_div_eq_div_mul, ← Nat.pow_succ]
    exact ih
theorem c_R_choicesIn {l : Launch} {h : Nat} {mi : TMi} {ml : TMl} {z : Nat} {B : Nat} {Q : Int32 → TMi → TMl → Nat → Prop} (hB : mi 120 1 = nI B) (hB6 : B ≤ 6) (hq : Q (nI (5 ^ B)) mi ml z) : CI l (h + 1) m_R_choicesIn [.ref 119] mi ml z Q := by
  refine t_R_choicesIn mi ml z ?_
  refine loop (P := fun i => Ev l (h + 1) m_R_choicesIn 4 ([.ref 119, .int (nI (5 ^ i)), .int (nI i)], [], st mi ml z) (qI Q)) B ?_ (fun i hi ih => ?_)
  · exact t_R_choicesIn_4 mi ml z _ _ ⟨fun _ => hq, fun c => absurd (le_at hB (by omega)) c⟩
  · refine t_R_choicesIn_4 mi ml z _ _ ⟨fun c => absurd c (ge_no hB (by omega) hi), fun _ => ?_⟩
    rw [show nI (5 ^ i) * 5 = nI (5 ^ (i + 1)) from by rw [Nat.pow_succ]; exact pk_mul _ _, nI_1]
    exact ih
theorem c_R_fitsRooms {l : Launch} {h : Nat} {mi : TMi} {ml : TMl} {z : Nat} {B R : Nat} {wo : Nat → Option Nat} {rm : Nat → Nat} {Q : Int32 → TMi → TMl → Nat → Prop} (hB : mi 120 1 = nI B) (hB6 : B ≤ 6) (hR : mi 120 2 = nI R) (hR4 : R ≤ 4) (hw : isW (mi 129) B R wo) (hrm : ∀ r, r < R → mi 120 (41 + r) = nI (rm r) ∧ rm r < 100) (hq : Q (bI (fits B R rm wo)) mi ml z) : CI l (h + 2) m_R_fitsRooms [.ref 119] mi ml z Q := by
  refine t_R_fitsRooms mi ml z ?_
  refine loop (P := fun i => (∀ r, r < i → cnt (inn wo r) B ≤ rm r) → Ev l (h + 2) m_R_fitsRooms 2 ([.ref 119, .int (nI i)], [], st mi ml z) (qI Q)) R (fun hk => ?_) (fun i hi ih hk => ?_) (fun k hk => absurd hk (Nat.not_lt_zero _))
  · rw [show fits B R rm wo = true from alln_iff.mpr (fun r hr => by rw [decide_eq_true_eq]; exact hk r hr)] at hq
    exact t_R_fitsRooms_2 mi ml z _ ⟨fun _ => hq, fun c => absurd (le_at hR (by omega)) c⟩
  · refine t_R_fitsRooms_2 mi ml z _ ⟨fun c => absurd c (ge_no hR (by omega) hi), fun _ => c_R_becksBy hB hB6 ?_⟩
    rw [isW_enc hw hR4 (show i < 4 by omega)]
    refine c_R_bitsOf (enc_64 _ hB6) ⟨in_addL (a := 41) (by omega) (by decide), ?_⟩
    have hcl := cnt_le (inn wo i) B
    have := (hrm i hi).2
    rw [pop_enc _ hB6, addL_cl 41 i (by omega), (hrm i hi).1]
    show (nI (cnt (inn wo i) B) ≤ nI (rm i) → _) ∧ (¬ nI (cnt (inn wo i) B) ≤ nI (rm i) → _)
    rw [nI_leI (by omega) (by omega), nI_1]
    refine ⟨fun q => ih (fun r hr => ?_), fun q => ?_⟩
    · by_cases e : r = i
      · subst e; exact q
      · exact hk r (by omega)
    · rw [show fits B R rm wo = false from alln_false hi (by rw [decide_eq_false_iff_not]; exact q)] at hq
      exact hq
/-- the reference's row of held choices -/
def HdS (mi : TMi) (ls : List Nat) : Prop := mi 119 25 = nI ls.length ∧ ∀ k c, ls[k]? = some c → mi 130 k = nI c
theorem HdS.fr {mi mi' : TMi} {ls : List Nat} (h : HdS mi ls) (e1 : mi' 119 25 = mi 119 25) (e2 : mi' 130 = mi 130) : HdS mi' ls := ⟨by rw [e1]; exact h.1, fun k c hk => by rw [e2]; exact h.2 k c hk⟩
theorem HdS.push {mi : TMi} {ls : List Nat} {c : Nat} (h : HdS mi ls) : HdS (up (up mi 130 ls.length (nI c)) 119 25 (nI (ls.length + 1))) (ls ++ [c]) := by
  refine ⟨by rw [up_at, List.length_append]; rfl, fun k x hk => ?_⟩
  rw [up_ne _ _ _ (show 130 ≠ 119 by decide)]
  by_cases q : k = ls.length
  · subst q
    rw [List.getElem?_append_right (Nat.le_refl _), Nat.sub_self] at hk
    simp at hk
    rw [up_at, hk]
  · rw [up_nk _ _ _ q]
    by_cases q2 : k < ls.length
    · rw [List.getElem?_append_left q2] at hk
      exact h.2 k x hk
    · rw [List.getElem?_eq_none (by rw [List.length_append]; simp; omega)] at hk
      cases hk
/-- what laysHeld touches -/
def FrH (mi mi' : TMi) : Prop := (∀ n, n ≠ 119 → n ≠ 129 → n ≠ 130 → mi' n = mi n) ∧ ∀ k, k ≠ 25 → mi' 119 k = mi 119 k
theorem FrH.refl (mi : TMi) : FrH mi mi := ⟨fun _ _ _ _ => rfl, fun _ _ => rfl⟩
theorem FrH.trans {a b c : TMi} (h : FrH a b) (k : FrH b c) : FrH a c := ⟨fun n h1 h2 h3 => by rw [k.1 n h1 h2 h3, h.1 n h1 h2 h3], fun n hn => by rw [k.2 n hn, h.2 n hn]⟩
theorem FrH.of {a b : TMi} (h : Fr [129] a b) : FrH a b := ⟨fun n h1 h2 h3 => h n (by simp [h2]), fun k _ => by rw [h 119 (by decide)]⟩
theorem c_R_laysHeld_loop {l : Launch} {h : Nat} {mi : TMi} {ml : TMl} {z : Nat} {B R : Nat} {L T : Nat → Nat → Int} {rm : Nat → Nat} {Q : TMi → TMl → Nat → Prop} (hH : RH mi B R L T rm) (h0 : mi 119 25 = 0)
    (hq : ∀ mi', FrH mi mi' → HdS mi' (hl B R L T rm (5 ^ B)) → Q mi' ml z) : Ev l (h + 5) m_R_laysHeld 11 ([.ref 119, .int 0], [], st mi ml z) (qV Q) := by
  have hB6 := hH.2.1
  have hR4 := hH.2.2.2.1
  have h5 := pow5 hB6
  refine loop (P := fun i => ∀ m, FrH mi m → HdS m (hl B R L T rm i) → Ev l (h + 5) m_R_laysHeld 11 ([.ref 119, .int (nI i)], [], st m ml z) (qV Q)) (5 ^ B) (fun m F hs => ?_) (fun i hi ih m F hs => ?_) mi (FrH.refl _) ⟨by rw [h0]; rfl, fun k c hk => by simp [hl] at hk⟩
  · have hHm := hH.fr (mi' := m) (F.1 120 (by decide) (by decide) (by decide)) (F.1 126 (by decide) (by decide) (by decide)) (F.1 127 (by decide) (by decide) (by decide))
    exact t_R_laysHeld_11 m ml z _ (c_R_choicesIn hHm.1 hB6 ⟨fun _ => hq m F hs, fun c => absurd (le_at (N := 5 ^ B) rfl (by omega)) c⟩)
  · have hHm := hH.fr (mi' := m) (F.1 120 (by decide) (by decide) (by decide)) (F.1 126 (by decide) (by decide) (by decide)) (F.1 127 (by decide) (by decide) (by decide))
    refine t_R_laysHeld_11 m ml z _ (c_R_choicesIn hHm.1 hB6 ⟨fun c => absurd c (ge_no (N := 5 ^ B) rfl (by omega) hi), fun _ => c_R_laysChoice hHm.2.2.1 hR4 (show i < 2 ^ 31 by omega) (fun m1 F1 hw1 => ?_)⟩)
    have hH1 := hHm.fr (mi' := m1) (F1 120 (by decide)) (F1 126 (by decide)) (F1 127 (by decide))
    have hs1 : HdS m1 (hl B R L T rm i) := hs.fr (by rw [F1 119 (by decide)]) (F1 130 (by decide))
    have FF : FrH mi m1 := F.trans (FrH.of F1)
    have skip : hp B R L T rm i = false → Ev l (h + 5) m_R_laysHeld 11 ([.ref 119, .int (nI i + 1)], [], st m1 ml z) (qV Q) := fun e => by
      rw [nI_1]
      refine ih m1 FF ?_
      rw [hl_succ, e]
      simpa using hs1
    rw [bI_0]
    refine ⟨fun c => skip (by simp [hp, c]), fun c => ?_⟩
    have c' : digs R i = true := by simpa using c
    have hiw : isW (m1 129) B R (chW i) := fun b hb => ⟨hw1 c' b (by omega), fun r e => digs_lt (by omega) c' e⟩
    refine c_R_isWanted hH1.1 hB6 hR4 hiw ?_
    rw [bI_0, hH1.2.2.2.2.1, hH1.2.2.2.2.2.1]
    refine ⟨fun c2 => skip (by simp [hp, held_wnt c2]), fun c2 => c_R_fitsRooms hH1.1 hB6 hH1.2.2.1 hR4 hiw hH1.2.2.2.2.2.2.2.2 ?_⟩
    rw [bI_0]
    refine ⟨fun c3 => skip (by simp [hp, c3]), fun c3 => c_R_isHeld hH1.1 hB6 hH1.2.2.1 hR4 hH1.b6 hH1.b7 hiw hH1.2.2.2.2.2.2.2.2 ?_⟩
    rw [bI_0, hH1.2.2.2.2.1, hH1.2.2.2.2.2.1]
    have hln := hl_len (B := B) (R := R) (L := L) (T := T) (rm := rm) (n := i)
    refine ⟨fun c4 => ?_, fun c4 => skip (by simp [hp, c4])⟩
    rw [hs1.1, cl_nI (by omega), up_ne _ _ _ (show 119 ≠ 130 by decide), hs1.1, nI_1, nI_1]
    refine ⟨in_nI (by omega) (by decide), ih _ (FF.trans ⟨fun n k1 k2 k3 => by rw [up_ne _ _ _ k1, up_ne _ _ _ k3], fun k hk => by rw [up_nk _ _ _ hk, up_ne _ _ _ (by decide)]⟩) ?_⟩
    rw [hl_succ, show hp B R L T rm i = true by simp at c3 c4; simp [hp, c', c3, c4]]
    exact hs1.push
