/-! ===== what holds: the same words for the class and for the reference ===== -/
theorem cnt_enc (p : Nat → Bool) (B : Nat) : ∀ k, cnt (fun b => tb (enc p B) b) (B + k) = cnt p B
  | 0 => cnt_congr (fun b hb => enc_tb p B b hb)
  | k + 1 => by
    rw [show B + (k + 1) = (B + k) + 1 by omega]
    simp only [cnt, enc_hi p B (B + k) (by omega)]
    exact cnt_enc p B k
theorem pop_enc (p : Nat → Bool) {B : Nat} (h : B ≤ 6) : pop6 (enc p B) = cnt p B := by
  unfold pop6
  have := cnt_enc p B (6 - B)
  rw [show B + (6 - B) = 6 by omega] at this
  exact this
theorem lst_enc (p : Nat → Bool) (f : Nat → Int) (B : Nat) : lst (fun b => tb (enc p B) b) f B = lst p f B := lst_congr (fun b hb => enc_tb p B b hb) (fun _ _ => rfl)
theorem smn_enc (p : Nat → Bool) (f : Nat → Nat) (B : Nat) : smn (fun b => tb (enc p B) b) f B = smn p f B := smn_congr (fun b hb => enc_tb p B b hb) (fun _ _ => rfl)
theorem enc_zero {p : Nat → Bool} : ∀ {n : Nat}, enc p n = 0 ↔ ∀ b, b < n → p b = false
  | 0 => by simp [enc]
  | n + 1 => by
    have ih := enc_zero (p := p) (n := n)
    have h2 : 0 < 2 ^ n := Nat.two_pow_pos n
    constructor
    · intro h b hb
      simp only [enc] at h
      split at h
      · omega
      · rename_i hp
        by_cases e : b = n
        · subst e; simpa using hp
        · exact ih.mp h b (by omega)
    · intro h
      simp only [enc, h n (Nat.lt_succ_self n)]
      exact ih.mpr (fun b hb => h b (by omega))
def alln (p : Nat → Bool) : Nat → Bool
  | 0 => true
  | n + 1 => alln p n && p n
theorem alln_iff {p : Nat → Bool} : ∀ {n : Nat}, alln p n = true ↔ ∀ b, b < n → p b = true
  | 0 => by simp [alln]
  | n + 1 => by
    have ih := alln_iff (p := p) (n := n)
    simp only [alln, Bool.and_eq_true, ih]
    constructor
    · intro h b hb
      by_cases e : b = n
      · subst e; exact h.2
      · exact h.1 b (by omega)
    · intro h
      exact ⟨fun b hb => h b (by omega), h n (Nat.lt_succ_self n)⟩
theorem alln_false {p : Nat → Bool} {n b : Nat} (hb : b < n) (h : p b = false) : alln p n = false := by
  cases e : alln p n
  · rfl
  · have := alln_iff.mp e b hb
    rw [h] at this; cases this
theorem alln_congr {p q : Nat → Bool} {n : Nat} (h : ∀ b, b < n → p b = q b) : alln p n = alln q n := by
  induction n with
  | zero => rfl
  | succ n ih => simp only [alln, h n (Nat.lt_succ_self n), ih (fun b hb => h b (Nat.lt_succ_of_lt hb))]
/-- an array holds where becks are -/
def isW (g : Nat → Int32) (B R : Nat) (wo : Nat → Option Nat) : Prop := ∀ b, b < B → g b = oI (wo b) ∧ ∀ r, wo b = some r → r < R
theorem isW_eq {g : Nat → Int32} {B R : Nat} {wo : Nat → Option Nat} (h : isW g B R wo) (hR : R ≤ 4) {r : Nat} (hr : r < 4) {b : Nat} (hb : b < B) : (g b == nI r) = (wo b == some r) := by
  obtain ⟨h1, h2⟩ := h b hb
  rw [h1]
  cases e : wo b with
  | none =>
    have : ¬ (-1 : Int32) = nI r := fun q => neg1_ne (by omega) q.symm
    simp [oI, this]
  | some q =>
    have hq := h2 q e
    by_cases e2 : q = r
    · subst e2; simp [oI]
    · have : ¬ nI q = nI r := fun h => e2 (nI_inj (by omega) (by omega) h)
      rw [show oI (some q) = nI q from rfl, beq_eq_false_iff_ne.mpr this, beq_eq_false_iff_ne.mpr (show ¬ some q = some r from fun h => e2 (Option.some.inj h))]
theorem isW_none {g : Nat → Int32} {B R : Nat} {wo : Nat → Option Nat} (h : isW g B R wo) (hR : R ≤ 4) {b : Nat} (hb : b < B) : (g b == -1) = (wo b == none) := by
  obtain ⟨h1, h2⟩ := h b hb
  rw [h1]
  cases e : wo b with
  | none => simp [oI]
  | some q =>
    have hq := h2 q e
    have : ¬ nI q = -1 := neg1_ne (by omega)
    simp [oI, this]
theorem isW_enc {g : Nat → Int32} {B R : Nat} {wo : Nat → Option Nat} (h : isW g B R wo) (hR : R ≤ 4) {r : Nat} (hr : r < 4) : enc (fun b => g b == nI r) B = enc (fun b => wo b == some r) B := enc_congr (fun _ hb => isW_eq h hR hr hb)
/-- those in a river; whether it would take one in; whether a beck would move; whether two break it -/
def inn (wo : Nat → Option Nat) (r : Nat) : Nat → Bool := fun b => wo b == some r
def adm (B : Nat) (T : Nat → Nat → Int) (rm : Nat → Nat) (wo : Nat → Option Nat) (b r : Nat) : Bool := decide (cnt (inn wo r) B < rm r) || (match lst (inn wo r) (fun b' => prO T b' r) B with
  | none => false
  | some m => decide (prO T m r < prO T b r))
def mov (L : Nat → Nat → Int) (wo : Nat → Option Nat) (b r : Nat) : Bool := match wo b with
  | none => true
  | some r' => !(r' == r) && decide (pbO L b r' < pbO L b r)
def brk (B : Nat) (L T : Nat → Nat → Int) (rm : Nat → Nat) (wo : Nat → Option Nat) (b r : Nat) : Bool := wdO L T b r && mov L wo b r && adm B T rm wo b r
def wnt (L T : Nat → Nat → Int) (wo : Nat → Option Nat) (b : Nat) : Bool := match wo b with
  | none => true
  | some r => wdO L T b r
def heldS (B R : Nat) (L T : Nat → Nat → Int) (rm : Nat → Nat) (wo : Nat → Option Nat) : Bool := alln (fun b => wnt L T wo b && alln (fun r => !brk B L T rm wo b r) R) B
theorem nz_of_lst {p : Nat → Bool} {f : Nat → Int} {B m : Nat} (h : lst p f B = some m) : enc p B ≠ 0 := by
  intro e
  have h1 := lst_lt h
  have := enc_zero.mp e m h1.1
  rw [h1.2] at this; cases this
theorem c_R_adm {l : Launch} {h : Nat} {mi : TMi} {ml : TMl} {z : Nat} {b r B R rmr : Nat} {wo : Nat → Option Nat} {rm : Nat → Nat} {Q : Int32 → TMi → TMl → Nat → Prop} (hB : mi 120 1 = nI B) (hB6 : B ≤ 6) (hR4 : R ≤ 4) (hd : bdA mi 127 B R) (hw : isW (mi 129) B R wo) (hb : b < B) (hr : r < R) (hrm : mi 120 (41 + r) = nI (rm r)) (hrm6 : rm r < 100) (hrr : rmr = rm r) (hq : Q (bI (adm B (Lk mi 127) rm wo b r)) mi ml z) :
    CI l (h + 2) m_R_becksBy [.ref 119, .int (nI r)] mi ml z (fun x7 mi7 ml7 z7 => CI l (h + 2) m_R_bitsOf [.int x7] mi7 ml7 z7 (fun x8 mi8 ml8 z8 => (vp_in (41 + nI r) 4113) ∧ ((x8 < (mi8 120 ((41 + nI r).toNatClampNeg)) → Q 1 mi8 ml8 z8) ∧ (¬ x8 < (mi8 120 ((41 + nI r).toNatClampNeg)) → ((x7 = 0 → Q 0 mi8 ml8 z8) ∧ (¬ x7 = 0 → CI l (h + 2) m_R_leastOf [.ref 119, .int (nI r), .int x7] mi8 ml8 z8 (fun x12 mi12 ml12 z12 => CI l (h + 2) m_R_takesMore [.ref 119, .int (nI r), .int (nI b), .int x12] mi12 ml12 z12 (fun x13 mi13 ml13 z13 => ((x13 = 0 → Q 0 mi13 ml13 z13) ∧ (¬ x13 = 0 → Q 1 mi13 ml13 z13)))))))))) := by
  refine c_R_becksBy hB hB6 ?_
  rw [isW_enc hw hR4 (show r < 4 by omega)]
  have h64 := enc_64 (inn wo r) hB6
  have h64' : enc (fun b => wo b == some r) B < 64 := h64
  refine c_R_bitsOf h64' ⟨in_addL (a := 41) (by omega) (by decide), ?_⟩
  have hc : pop6 (enc (fun b => wo b == some r) B) = cnt (inn wo r) B := pop_enc (inn wo r) hB6
  have hcl := cnt_le (inn wo r) B
  rw [addL_cl 41 r (by omega), hrm, hc, nI_ltI (by omega) (by omega)]
  unfold adm at hq
  refine ⟨fun c => ?_, fun c => ⟨fun c2 => ?_, fun c2 => ?_⟩⟩
  · rw [show decide (cnt (inn wo r) B < rm r) = true from decide_eq_true c] at hq
    exact hq
  · rw [show decide (cnt (inn wo r) B < rm r) = false from decide_eq_false c] at hq
    have hz : enc (inn wo r) B = 0 := nI_inj (b := 0) (by omega) (by decide) c2
    cases e : lst (inn wo r) (fun b' => prO (Lk mi 127) b' r) B with
    | none => rw [e] at hq; exact hq
    | some m => exact absurd hz (nz_of_lst e)
  · rw [show decide (cnt (inn wo r) B < rm r) = false from decide_eq_false c] at hq
    refine c_R_leastOf hB hB6 hR4 hd hr h64' ?_
    have el : lst (fun b' => tb (enc (fun b => wo b == some r) B) b') (fun b' => prO (Lk mi 127) b' r) B = lst (inn wo r) (fun b' => prO (Lk mi 127) b' r) B := lst_enc (inn wo r) _ B
    rw [el]
    cases e : lst (inn wo r) (fun b' => prO (Lk mi 127) b' r) B with
    | none =>
      exfalso
      apply c2
      have : enc (inn wo r) B = 0 := enc_zero.mpr (fun b hb => lst_none e b hb)
      show nI (enc (inn wo r) B) = 0
      rw [this]; rfl
    | some m =>
      rw [e] at hq
      have hm := (lst_lt e).1
      refine c_R_takesMore hB6 hR4 hd hb hm hr ⟨fun c3 => ?_, fun c3 => ?_⟩
      · rw [bI_0] at c3
        dsimp only at hq
        rw [c3] at hq
        exact hq
      · rw [bI_0] at c3
        dsimp only at hq
        rw [show decide (prO (Lk mi 127) m r < prO (Lk mi 127) b r) = true by simpa using c3] at hq
        exact hq
theorem c_R_breaksIt {l : Launch} {h : Nat} {mi : TMi} {ml : TMl} {z : Nat} {b r B R : Nat} {wo : Nat → Option Nat} {rm : Nat → Nat} {Q : Int32 → TMi → TMl → Nat → Prop} (hB : mi 120 1 = nI B) (hB6 : B ≤ 6) (hR4 : R ≤ 4) (hd6 : bdA mi 126 B R) (hd : bdA mi 127 B R) (hw : isW (mi 129) B R wo) (hb : b < B) (hr : r < R) (hrm : mi 120 (41 + r) = nI (rm r)) (hrm6 : rm r < 100) (hq : Q (bI (brk B (Lk mi 126) (Lk mi 127) rm wo b r)) mi ml z) : CI l (h + 3) m_R_breaksIt [.ref 119, .int (nI b), .int (nI r)] mi ml z Q := by
  have hin : vp_in (nI b) 6 := in_nI (by omega) (by decide)
  refine t_R_breaksIt mi ml z _ _ ⟨hin, ?_⟩
  rw [cl_nI (by omega)]
  have h1 := isW_eq hw hR4 (show r < 4 by omega) hb
  have h2 := isW_none hw hR4 hb
  unfold brk at hq
  refine ⟨fun c => ?_, fun c => c_R_wouldBoth (by omega) (by omega) ⟨fun c2 => ?_, fun c2 => ⟨hin, fun c3 => ?_, fun c3 => ⟨hin, ?_⟩⟩⟩⟩
  · have e : wo b = some r := by
      rw [c] at h1; simpa using h1
    have : mov (Lk mi 126) wo b r = false := by simp [mov, e]
    rw [this] at hq
    simp only [Bool.and_false, Bool.false_and] at hq
    exact hq
  · rw [bI_0] at c2
    rw [c2] at hq
    exact hq
  · rw [bI_0] at c2
    have e : wo b = none := by
      rw [c3] at h2; simpa using h2
    have : mov (Lk mi 126) wo b r = true := by simp [mov, e]
    rw [this, show wdO (Lk mi 126) (Lk mi 127) b r = true by simpa using c2] at hq
    exact c_R_adm hB hB6 hR4 hd hw hb hr hrm hrm6 rfl hq
  · rw [bI_0] at c2
    have w2 : wdO (Lk mi 126) (Lk mi 127) b r = true := by simpa using c2
    cases e : wo b with
    | none =>
      exfalso; apply c3
      rw [(hw b hb).1, e]; rfl
    | some r' =>
      have hr' := (hw b hb).2 r' e
      have eg : mi 129 b = nI r' := by rw [(hw b hb).1, e]; rfl
      rw [eg]
      have hne : ¬ r' = r := fun q => c (by rw [eg, q])
      refine c_R_likesMore hB6 hR4 hd6 hb hr' hr ⟨fun c4 => ?_, fun c4 => ?_⟩
      · rw [bI_0] at c4
        have : mov (Lk mi 126) wo b r = true := by simp only [mov, e]; simp [hne]; simpa using c4
        rw [this, w2] at hq
        exact c_R_adm hB hB6 hR4 hd hw hb hr hrm hrm6 rfl hq
      · rw [bI_0] at c4
        have : mov (Lk mi 126) wo b r = false := by simp only [mov, e, c4]; simp
        rw [this, w2] at hq
        simp only [Bool.and_false, Bool.false_and] at hq
        exact hq
theorem c_R_isWanted {l : Launch} {h : Nat} {mi : TMi} {ml : TMl} {z : Nat} {B R : Nat} {wo : Nat → Option Nat} {Q : Int32 → TMi → TMl → Nat → Prop} (hB : mi 120 1 = nI B) (hB6 : B ≤ 6) (hR4 : R ≤ 4) (hw : isW (mi 129) B R wo) (hq : Q (bI (alln (wnt (Lk mi 126) (Lk mi 127) wo) B)) mi ml z) : CI l (h + 2) m_R_isWanted [.ref 119] mi ml z Q := by
  refine t_R_isWanted mi ml z ?_
  have key : ∀ k i, i + k = B → alln (wnt (Lk mi 126) (Lk mi 127) wo) i = true → Ev l (h + 2) m_R_isWanted 2 ([.ref 119, .int (nI i)], [], st mi ml z) (qI Q) := by
    intro k
    induction k with
    | zero =>
      intro i hi ha
      have : i = B := by omega
      subst this
      rw [ha] at hq
      exact t_R_isWanted_2 mi ml z _ ⟨fun _ => hq, fun c => absurd (by rw [hB]; exact nI_le (Nat.le_refl _) (by omega)) c⟩
    | succ k ih =>
      intro i hi ha
      have hib : i < B := by omega
      have hin : vp_in (nI i) 6 := in_nI (by omega) (by decide)
      have h2 := isW_none hw hR4 hib
      refine t_R_isWanted_2 mi ml z _ ⟨fun c => ?_, fun _ => ⟨hin, ?_⟩⟩
      · rw [hB] at c
        exact absurd c (nI_ge (by omega) (by omega))
      · rw [cl_nI (by omega)]
        refine ⟨fun c => ?_, fun c => ⟨hin, ?_⟩⟩
        · have e : wo i = none := by rw [c] at h2; simpa using h2
          rw [nI_1]
          exact ih (i + 1) (by omega) (by simp [alln, ha, wnt, e])
        · cases e : wo i with
          | none => exfalso; apply c; rw [(hw i hib).1, e]; rfl
          | some r' =>
            have hr' := (hw i hib).2 r' e
            rw [show mi 129 i = nI r' by rw [(hw i hib).1, e]; rfl]
            refine c_R_wouldBoth (by omega) (by omega) ⟨fun c2 => ?_, fun c2 => ?_⟩
            · rw [bI_0] at c2
              rw [nI_1]
              exact ih (i + 1) (by omega) (by simp only [alln, ha, wnt, e, Bool.true_and]; simpa using c2)
            · rw [bI_0] at c2
              rw [alln_false hib (by simp only [wnt, e]; exact c2)] at hq
              exact hq
  exact key B 0 (by omega) rfl
theorem held_wnt {B R : Nat} {L T : Nat → Nat → Int} {rm : Nat → Nat} {wo : Nat → Option Nat} (h : alln (wnt L T wo) B = false) : heldS B R L T rm wo = false := by
  cases e : heldS B R L T rm wo
  · rfl
  · have : alln (wnt L T wo) B = true := alln_iff.mpr (fun b hb => by
      have := alln_iff.mp e b hb
      rw [Bool.and_eq_true] at this
      exact this.1)
    rw [h] at this; cases this
theorem c_R_isHeld {l : Launch} {h : Nat} {mi : TMi} {ml : TMl} {z : Nat} {B R : Nat} {wo : Nat → Option Nat} {rm : Nat → Nat} {Q : Int32 → TMi → TMl → Nat → Prop} (hB : mi 120 1 = nI B) (hB6 : B ≤ 6) (hR : mi 120 2 = nI R) (hR4 : R ≤ 4) (hd6 : bdA mi 126 B R) (hd : bdA mi 127 B R) (hw : isW (mi 129) B R wo) (hrm : ∀ r, r < R → mi 120 (41 + r) = nI (rm r) ∧ rm r < 100) (hq : Q (bI (heldS B R (Lk mi 126) (Lk mi 127) rm wo)) mi ml z) : CI l (h + 4) m_R_isHeld [.ref 119] mi ml z Q := by
  refine t_R_isHeld mi ml z (c_R_isWanted hB hB6 hR4 hw ⟨fun c => ?_, fun c => ?_⟩)
  · rw [bI_0] at c
    have hwn : alln (wnt (Lk mi 126) (Lk mi 127) wo) B = true := by simpa using c
    have key : ∀ k i, i + k = B → (∀ b, b < i → alln (fun r => !brk B (Lk mi 126) (Lk mi 127) rm wo b r) R = true) → Ev l (h + 4) m_R_isHeld 11 ([.ref 119, .int (nI i), .retAddr 0], [], st mi ml z) (qI Q) := by
      intro k
      induction k with
      | zero =>
        intro i hi ha
        have : i = B := by omega
        subst this
        rw [show heldS i R (Lk mi 126) (Lk mi 127) rm wo = true from alln_iff.mpr (fun b hb => by rw [Bool.and_eq_true]; exact ⟨alln_iff.mp hwn b hb, ha b hb⟩)] at hq
        exact t_R_isHeld_11 mi ml z _ ⟨fun _ => hq, fun c => absurd (by rw [hB]; exact nI_le (Nat.le_refl _) (by omega)) c⟩
      | succ k ih =>
        intro i hi ha
        have hib : i < B := by omega
        refine t_R_isHeld_11 mi ml z _ ⟨fun c => ?_, fun _ => ?_⟩
        · rw [hB] at c
          exact absurd c (nI_ge (by omega) (by omega))
        · have inner : ∀ k2 j, j + k2 = R → alln (fun r => !brk B (Lk mi 126) (Lk mi 127) rm wo i r) j = true → Ev l (h + 4) m_R_isHeld 23 ([.ref 119, .int (nI i), .int (nI j)], [], st mi ml z) (qI Q) := by
            intro k2
            induction k2 with
            | zero =>
              intro j hj hja
              have : j = R := by omega
              subst this
              refine t_R_isHeld_23 mi ml z _ _ ⟨fun _ => ?_, fun c => absurd (by rw [hR]; exact nI_le (Nat.le_refl _) (by omega)) c⟩
              rw [nI_1]
              refine ih (i + 1) (by omega) (fun b hb => ?_)
              by_cases e : b = i
              · subst e; exact hja
              · exact ha b (by omega)
            | succ k2 ih2 =>
              intro j hj hja
              have hjr : j < R := by omega
              refine t_R_isHeld_23 mi ml z _ _ ⟨fun c => ?_, fun _ => c_R_breaksIt hB hB6 hR4 hd6 hd hw hib hjr (hrm j hjr).1 (hrm j hjr).2 ⟨fun c => ?_, fun c => ?_⟩⟩
              · rw [hR] at c
                exact absurd c (nI_ge (by omega) (by omega))
              · rw [bI_0] at c
                rw [nI_1]
                exact ih2 (j + 1) (by omega) (by simp [alln, hja, c])
              · rw [bI_0] at c
                rw [show heldS B R (Lk mi 126) (Lk mi 127) rm wo = false from alln_false hib (by rw [alln_false hjr (by simpa using c)]; simp)] at hq
                exact hq
          exact inner R 0 (by omega) rfl
    exact key B 0 (by omega) (fun b hb => absurd hb (Nat.not_lt_zero _))
  · rw [bI_0] at c
    rw [held_wnt c] at hq
    exact hq
theorem c_Sc_wouldAdmit_17 {l : Launch} {h : Nat} {mi : TMi} {ml : TMl} {z : Nat} {w lw b r B R : Nat} {L T : Nat → Nat → Int} {wo : Nat → Option Nat} {rm : Nat → Nat} {Q : Int32 → TMi → TMl → Nat → Prop} (hwn : SH[w]? = some (.inr (0, lw))) (hlw : 6 ≤ lw ∧ lw < 1000) (hB : mi 18 0 = nI B) (hB6 : B ≤ 6) (hR4 : R ≤ 4) (hs : SLp mi 28 29 30 31 32 B R allP L T) (hw : isW (mi w) B R wo) (hb : b < B) (hr : r < R) (hrm : mi 27 (12 + r) = nI (rm r)) (hrm6 : rm r < 100) (hq : Q (bI (adm B T rm wo b r)) mi ml z) : CI l (h + 3) m_Sc_wouldAdmit [.ref 17, .ref w, .int (nI r), .int (nI b)] mi ml z Q := by
  refine t_Sc_wouldAdmit_17 mi ml z w lw _ _ hwn (c_Sc_becksIn_17 hwn hlw hB hB6 ?_)
  rw [isW_enc hw hR4 (show r < 4 by omega)]
  have h64 : enc (fun b => wo b == some r) B < 64 := enc_64 (inn wo r) hB6
  refine c_bitCount h64 (t_Sc_roomOf_17 _ _ _ _ ⟨in_addL (a := 12) (by omega) (by decide), ?_⟩)
  have hc : pop6 (enc (fun b => wo b == some r) B) = cnt (inn wo r) B := pop_enc (inn wo r) hB6
  have hcl := cnt_le (inn wo r) B
  rw [addL_cl 12 r (by omega), hrm, hc, nI_leI (by omega) (by omega)]
  unfold adm at hq
  refine ⟨fun c => c_Sc_leastLiked_17 hB hB6 hR4 hs hr h64 ?_, fun c => ?_⟩
  · rw [show decide (cnt (inn wo r) B < rm r) = false from decide_eq_false (by omega)] at hq
    have el : lst (fun b' => tb (enc (fun b => wo b == some r) B) b') (fun b' => prO T b' r) B = lst (inn wo r) (fun b' => prO T b' r) B := lst_enc (inn wo r) _ B
    rw [el]
    cases e : lst (inn wo r) (fun b' => prO T b' r) B with
    | none => rw [e] at hq; exact ⟨fun _ => hq, fun c => absurd rfl c⟩
    | some m =>
      rw [e] at hq
      have hm := (lst_lt e).1
      refine ⟨fun c2 => absurd c2 (neg1_ne (by omega)), fun _ => c_Sc_takesBetter_17 hB6 hR4 hs hb hr hm ⟨fun c3 => ?_, fun c3 => ?_⟩⟩
      · rw [bI_0] at c3
        dsimp only at hq
        rw [c3] at hq
        exact hq
      · rw [bI_0] at c3
        dsimp only at hq
        rw [show decide (prO T m r < prO T b r) = true by simpa using c3] at hq
        exact hq
  · rw [show decide (cnt (inn wo r) B < rm r) = true from decide_eq_true (by omega)] at hq
    exact hq
theorem c_Sc_breakersOf_17 {l : Launch} {h : Nat} {mi : TMi} {ml : TMl} {z : Nat} {w lw b B R : Nat} {L T : Nat → Nat → Int} {wo : Nat → Option Nat} {rm : Nat → Nat} {Q : Int32 → TMi → TMl → Nat → Prop} (hwn : SH[w]? = some (.inr (0, lw))) (hlw : 6 ≤ lw ∧ lw < 1000) (hB : mi 18 0 = nI B) (hB6 : B ≤ 6) (hR : mi 18 1 = nI R) (hR4 : R ≤ 4) (hs : SLp mi 28 29 30 31 32 B R allP L T) (hw : isW (mi w) B R wo) (hb : b < B) (hrm : ∀ r, r < R → mi 27 (12 + r) = nI (rm r) ∧ rm r < 100) (hq : Q (nI (enc (fun r => brk B L T rm wo b r) R)) mi ml z) : CI l (h + 4) m_Sc_breakersOf [.ref 17, .ref w, .int (nI b)] mi ml z Q := by
  refine t_Sc_breakersOf_17 mi ml z w lw _ hwn ?_
  have key : ∀ k i, i + k = R → Ev l (h + 4) m_Sc_breakersOf 5 ([.ref 17, .ref w, .int (nI b), .int (nI (enc (fun r => brk B L T rm wo b r) i)), .int (nI i)], [], st mi ml z) (qI Q) := by
    intro k
    induction k with
    | zero =>
      intro i hi
      have : i = R := by omega
      subst this
      exact t_Sc_breakersOf_17_5 mi ml z w lw _ _ _ hwn ⟨fun _ => hq, fun c => absurd (by rw [hR]; exact nI_le (Nat.le_refl _) (by omega)) c⟩
    | succ k ih =>
      intro i hi
      have hir : i < R := by omega
      have ih := ih (i + 1) (by omega)
      have skip : brk B L T rm wo b i = false → Ev l (h + 4) m_Sc_breakersOf 5 ([.ref 17, .ref w, .int (nI b), .int (nI (enc (fun r => brk B L T rm wo b r) i)), .int (nI i + 1)], [], st mi ml z) (qI Q) := fun e => by
        rw [nI_1, enc_skip (p := fun r => brk B L T rm wo b r) e]; exact ih
      refine t_Sc_breakersOf_17_5 mi ml z w lw _ _ _ hwn ⟨fun c => ?_, fun _ => c_Sc_bothWould_17 hB6 hR4 hs hb hir ⟨fun c => ?_, fun c => ⟨in_nI (by omega) (by omega), ?_⟩⟩⟩
      · rw [hR] at c
        exact absurd c (nI_ge (by omega) (by omega))
      · rw [bI_0] at c
        exact skip (by simp [brk, c])
      · rw [bI_0] at c
        have w2 : wdO L T b i = true := by simpa using c
        rw [cl_nI (by omega), (hw b hb).1]
        have yes : mov L wo b i = true → CI l (h + 3) m_Sc_wouldAdmit [.ref 17, .ref w, .int (nI i), .int (nI b)] mi ml z (fun x7 mi7 ml7 z7 => ((x7 = 0 → Ev l (h + 3 + 1) m_Sc_breakersOf 5 ([.ref 17, .ref w, .int (nI b), .int (nI (enc (fun r => brk B L T rm wo b r) i)), .int (nI i + 1)], [], st mi7 ml7 z7) (qI Q)) ∧ (¬ x7 = 0 → Ev l (h + 3 + 1) m_Sc_breakersOf 5 ([.ref 17, .ref w, .int (nI b), .int (nI (enc (fun r => brk B L T rm wo b r) i) ||| ((1 : Int32) <<< (nI i &&& 31))), .int (nI i + 1)], [], st mi7 ml7 z7) (qI Q)))) := fun hm => by
          refine c_Sc_wouldAdmit_17 hwn hlw hB hB6 hR4 hs hw hb hir (hrm i hir).1 (hrm i hir).2 ⟨fun c3 => ?_, fun c3 => ?_⟩
          · rw [bI_0] at c3
            exact skip (by simp [brk, c3])
          · rw [bI_0] at c3
            rw [nI_1, enc_step (p := fun r => brk B L T rm wo b r) (by omega) (by simp [brk, w2, hm]; simpa using c3)]
            exact ih
        cases e : wo b with
        | none => exact t_Sc_wouldMove_17 _ _ _ _ _ _ ⟨fun _ => ⟨fun q => absurd q (by decide), fun _ => yes (by simp [mov, e])⟩, fun c2 => absurd rfl c2⟩
        | some r' =>
          have hr' := (hw b hb).2 r' e
          refine t_Sc_wouldMove_17 _ _ _ _ _ _ ⟨fun c2 => absurd c2 (neg1_ne (by omega)), fun _ => ⟨fun c2 => ⟨fun _ => ?_, fun q => absurd rfl q⟩, fun c2 => c_Sc_likesBetter_17 hB6 hR4 hs hb hir hr' ⟨fun c3 => ⟨fun _ => ?_, fun q => absurd rfl q⟩, fun c3 => ⟨fun q => absurd q (by decide), fun _ => yes ?_⟩⟩⟩⟩
          · have : r' = i := nI_inj (by omega) (by omega) c2
            exact skip (by simp [brk, mov, e, this])
          · rw [bI_0] at c3
            exact skip (by simp only [brk, mov, e, c3]; simp)
          · rw [bI_0] at c3
            have : ¬ r' = i := fun q => c2 (by rw [q]; rfl)
            simp only [mov, e]; simp [this]; simpa using c3
  exact key R 0 (by omega)
theorem c_Sc_isHeld_17 {l : Launch} {h : Nat} {mi : TMi} {ml : TMl} {z : Nat} {w lw B R : Nat} {L T : Nat → Nat → Int} {wo : Nat → Option Nat} {rm : Nat → Nat} {Q : Int32 → TMi → TMl → Nat → Prop} (hwn : SH[w]? = some (.inr (0, lw))) (hlw : 6 ≤ lw ∧ lw < 1000) (hB : mi 18 0 = nI B) (hB6 : B ≤ 6) (hR : mi 18 1 = nI R) (hR4 : R ≤ 4) (hs : SLp mi 28 29 30 31 32 B R allP L T) (hw : isW (mi w) B R wo) (hrm : ∀ r, r < R → mi 27 (12 + r) = nI (rm r) ∧ rm r < 100) (hq : Q (bI (heldS B R L T rm wo)) mi ml z) : CI l (h + 5) m_Sc_isHeld [.ref 17, .ref w] mi ml z Q := by
  refine t_Sc_isHeld_17 mi ml z w lw hwn ?_
  have hz : ∀ b, (nI (enc (fun r => brk B L T rm wo b r) R) = 0) ↔ alln (fun r => !brk B L T rm wo b r) R = true := fun b => by
    have h16 : enc (fun r => brk B L T rm wo b r) R < 2 ^ R := enc_lt _ R
    have := pow16 hR4
    constructor
    · intro h
      have h0 : enc (fun r => brk B L T rm wo b r) R = 0 := nI_inj (b := 0) (by omega) (by decide) h
      exact alln_iff.mpr (fun r hr => by simp [enc_zero.mp h0 r hr])
    · intro h
      have : enc (fun r => brk B L T rm wo b r) R = 0 := enc_zero.mpr (fun r hr => by have := alln_iff.mp h r hr; simpa using this)
      rw [this]; rfl
  have key : ∀ k i, i + k = B → alln (fun b => wnt L T wo b && alln (fun r => !brk B L T rm wo b r) R) i = true → Ev l (h + 5) m_Sc_isHeld 2 ([.ref 17, .ref w, .int (nI i)], [], st mi ml z) (qI Q) := by
    intro k
    induction k with
    | zero =>
      intro i hi ha
      have : i = B := by omega
      subst this
      rw [show heldS i R L T rm wo = true from ha] at hq
      exact t_Sc_isHeld_17_2 mi ml z w lw _ hwn ⟨fun _ => hq, fun c => absurd (by rw [hB]; exact nI_le (Nat.le_refl _) (by omega)) c⟩
    | succ k ih =>
      intro i hi ha
      have hib : i < B := by omega
      have hin : vp_in (nI i) lw := in_nI (by omega) (by omega)
      have h2 := isW_none hw hR4 hib
      refine t_Sc_isHeld_17_2 mi ml z w lw _ hwn ⟨fun c => ?_, fun _ => ⟨hin, ?_⟩⟩
      · rw [hB] at c
        exact absurd c (nI_ge (by omega) (by omega))
      · rw [cl_nI (by omega)]
        have br : wnt L T wo i = true → CI l (h + 4) m_Sc_breakersOf [.ref 17, .ref w, .int (nI i)] mi ml z (fun x4 mi4 ml4 z4 => ((x4 = 0 → Ev l (h + 4 + 1) m_Sc_isHeld 2 ([.ref 17, .ref w, .int (nI i + 1)], [], st mi4 ml4 z4) (qI Q)) ∧ (¬ x4 = 0 → Q 0 mi4 ml4 z4))) := fun hwi => by
          refine c_Sc_breakersOf_17 hwn hlw hB hB6 hR hR4 hs hw hib hrm ⟨fun c => ?_, fun c => ?_⟩
          · rw [hz] at c
            rw [nI_1]
            exact ih (i + 1) (by omega) (by simp only [alln] at ha ⊢; simp [ha, hwi, c])
          · rw [hz] at c
            rw [show heldS B R L T rm wo = false from alln_false hib (by rw [show alln (fun r => !brk B L T rm wo i r) R = false by simpa using c]; simp)] at hq
            exact hq
        refine ⟨fun c => br (by have e : wo i = none := by rw [c] at h2; simpa using h2
                                simp [wnt, e]), fun c => ⟨hin, ?_⟩⟩
        cases e : wo i with
        | none => exfalso; apply c; rw [(hw i hib).1, e]; rfl
        | some r' =>
          have hr' := (hw i hib).2 r' e
          rw [show mi w i = nI r' by rw [(hw i hib).1, e]; rfl]
          refine c_Sc_bothWould_17 hB6 hR4 hs hib hr' ⟨fun c2 => ?_, fun c2 => br ?_⟩
          · rw [bI_0] at c2
            rw [show heldS B R L T rm wo = false from alln_false hib (by simp only [wnt, e, c2]; simp)] at hq
            exact hq
          · rw [bI_0] at c2
            simp only [wnt, e]; simpa using c2
  exact key B 0 (by omega) rfl
theorem c_Sc_wouldAdmit_33 {l : Launch} {h : Nat} {mi : TMi} {ml : TMl} {z : Nat} {w lw b r B R : Nat} {L T : Nat → Nat → Int} {wo : Nat → Option Nat} {rm : Nat → Nat} {Q : Int32 → TMi → TMl → Nat → Prop} (hwn : SH[w]? = some (.inr (0, lw))) (hlw : 6 ≤ lw ∧ lw < 1000) (hB : mi 18 0 = nI B) (hB6 : B ≤ 6) (hR4 : R ≤ 4) (hs : SLp mi 35 36 37 38 39 B R allP L T) (hw : isW (mi w) B R wo) (hb : b < B) (hr : r < R) (hrm : mi 34 (12 + r) = nI (rm r)) (hrm6 : rm r < 100) (hq : Q (bI (adm B T rm wo b r)) mi ml z) : CI l (h + 3) m_Sc_wouldAdmit [.ref 33, .ref w, .int (nI r), .int (nI b)] mi ml z Q := by
  refine t_Sc_wouldAdmit_33 mi ml z w lw _ _ hwn (c_Sc_becksIn_33 hwn hlw hB hB6 ?_)
  rw [isW_enc hw hR4 (show r < 4 by omega)]
  have h64 : enc (fun b => wo b == some r) B < 64 := enc_64 (inn wo r) hB6
  refine c_bitCount h64 (t_Sc_roomOf_33 _ _ _ _ ⟨in_addL (a := 12) (by omega) (by decide), ?_⟩)
  have hc : pop6 (enc (fun b => wo b == some r) B) = cnt (inn wo r) B := pop_enc (inn wo r) hB6
  have hcl := cnt_le (inn wo r) B
  rw [addL_cl 12 r (by omega), hrm, hc, nI_leI (by omega) (by omega)]
  unfold adm at hq
  refine ⟨fun c => c_Sc_leastLiked_33 hB hB6 hR4 hs hr h64 ?_, fun c => ?_⟩
  · rw [show decide (cnt (inn wo r) B < rm r) = false from decide_eq_false (by omega)] at hq
    have el : lst (fun b' => tb (enc (fun b => wo b == some r) B) b') (fun b' => prO T b' r) B = lst (inn wo r) (fun b' => prO T b' r) B := lst_enc (inn wo r) _ B
    rw [el]
    cases e : lst (inn wo r) (fun b' => prO T b' r) B with
    | none => rw [e] at hq; exact ⟨fun _ => hq, fun c => absurd rfl c⟩
    | some m =>
      rw [e] at hq
      have hm := (lst_lt e).1
      refine ⟨fun c2 => absurd c2 (neg1_ne (by omega)), fun _ => c_Sc_takesBetter_33 hB6 hR4 hs hb hr hm ⟨fun c3 => ?_, fun c3 => ?_⟩⟩
      · rw [bI_0] at c3
        dsimp only at hq
        rw [c3] at hq
        exact hq
      · rw [bI_0] at c3
        dsimp only at hq
        rw [show decide (prO T m r < prO T b r) = true by simpa using c3] at hq
        exact hq
  · rw [show decide (cnt (inn wo r) B < rm r) = true from decide_eq_true (by omega)] at hq
    exact hq
theorem c_Sc_breakersOf_33 {l : Launch} {h : Nat} {mi : TMi} {ml : TMl} {z : Nat} {w lw b B R : Nat} {L T : Nat → Nat → Int} {wo : Nat → Option Nat} {rm : Nat → Nat} {Q : Int32 → TMi → TMl → Nat → Prop} (hwn : SH[w]? = some (.inr (0, lw))) (hlw : 6 ≤ lw ∧ lw < 1000) (hB : mi 18 0 = nI B) (hB6 : B ≤ 6) (hR : mi 18 1 = nI R) (hR4 : R ≤ 4) (hs : SLp mi 35 36 37 38 39 B R allP L T) (hw : isW (mi w) B R wo) (hb : b < B) (hrm : ∀ r, r < R → mi 34 (12 + r) = nI (rm r) ∧ rm r < 100) (hq : Q (nI (enc (fun r => brk B L T rm wo b r) R)) mi ml z) : CI l (h + 4) m_Sc_breakersOf [.ref 33, .ref w, .int (nI b)] mi ml z Q := by
  refine t_Sc_breakersOf_33 mi ml z w lw _ hwn ?_
  have key : ∀ k i, i + k = R → Ev l (h + 4) m_Sc_breakersOf 5 ([.ref 33, .ref w, .int (nI b), .int (nI (enc (fun r => brk B L T rm wo b r) i)), .int (nI i)], [], st mi ml z) (qI Q) := by
    intro k
    induction k with
    | zero =>
      intro i hi
      have : i = R := by omega
      subst this
      exact t_Sc_breakersOf_33_5 mi ml z w lw _ _ _ hwn ⟨fun _ => hq, fun c => absurd (by rw [hR]; exact nI_le (Nat.le_refl _) (by omega)) c⟩
    | succ k ih =>
      intro i hi
      have hir : i < R := by omega
      have ih := ih (i + 1) (by omega)
      have skip : brk B L T rm wo b i = false → Ev l (h + 4) m_Sc_breakersOf 5 ([.ref 33, .ref w, .int (nI b), .int (nI (enc (fun r => brk B L T rm wo b r) i)), .int (nI i + 1)], [], st mi ml z) (qI Q) := fun e => by
        rw [nI_1, enc_skip (p := fun r => brk B L T rm wo b r) e]; exact ih
      refine t_Sc_breakersOf_33_5 mi ml z w lw _ _ _ hwn ⟨fun c => ?_, fun _ => c_Sc_bothWould_33 hB6 hR4 hs hb hir ⟨fun c => ?_, fun c => ⟨in_nI (by omega) (by omega), ?_⟩⟩⟩
      · rw [hR] at c
        exact absurd c (nI_ge (by omega) (by omega))
      · rw [bI_0] at c
        exact skip (by simp [brk, c])
      · rw [bI_0] at c
        have w2 : wdO L T b i = true := by simpa using c
        rw [cl_nI (by omega), (hw b hb).1]
        have yes : mov L wo b i = true → CI l (h + 3) m_Sc_wouldAdmit [.ref 33, .ref w, .int (nI i), .int (nI b)] mi ml z (fun x7 mi7 ml7 z7 => ((x7 = 0 → Ev l (h + 3 + 1) m_Sc_breakersOf 5 ([.ref 33, .ref w, .int (nI b), .int (nI (enc (fun r => brk B L T rm wo b r) i)), .int (nI i + 1)], [], st mi7 ml7 z7) (qI Q)) ∧ (¬ x7 = 0 → Ev l (h + 3 + 1) m_Sc_breakersOf 5 ([.ref 33, .ref w, .int (nI b), .int (nI (enc (fun r => brk B L T rm wo b r) i) ||| ((1 : Int32) <<< (nI i &&& 31))), .int (nI i + 1)], [], st mi7 ml7 z7) (qI Q)))) := fun hm => by
          refine c_Sc_wouldAdmit_33 hwn hlw hB hB6 hR4 hs hw hb hir (hrm i hir).1 (hrm i hir).2 ⟨fun c3 => ?_, fun c3 => ?_⟩
          · rw [bI_0] at c3
            exact skip (by simp [brk, c3])
          · rw [bI_0] at c3
            rw [nI_1, enc_step (p := fun r => brk B L T rm wo b r) (by omega) (by simp [brk, w2, hm]; simpa using c3)]
            exact ih
        cases e : wo b with
        | none => exact t_Sc_wouldMove_33 _ _ _ _ _ _ ⟨fun _ => ⟨fun q => absurd q (by decide), fun _ => yes (by simp [mov, e])⟩, fun c2 => absurd rfl c2⟩
        | some r' =>
          have hr' := (hw b hb).2 r' e
          refine t_Sc_wouldMove_33 _ _ _ _ _ _ ⟨fun c2 => absurd c2 (neg1_ne (by omega)), fun _ => ⟨fun c2 => ⟨fun _ => ?_, fun q => absurd rfl q⟩, fun c2 => c_Sc_likesBetter_33 hB6 hR4 hs hb hir hr' ⟨fun c3 => ⟨fun _ => ?_, fun q => absurd rfl q⟩, fun c3 => ⟨fun q => absurd q (by decide), fun _ => yes ?_⟩⟩⟩⟩
          · have : r' = i := nI_inj (by omega) (by omega) c2
            exact skip (by simp [brk, mov, e, this])
          · rw [bI_0] at c3
            exact skip (by simp only [brk, mov, e, c3]; simp)
          · rw [bI_0] at c3
            have : ¬ r' = i := fun q => c2 (by rw [q]; rfl)
            simp only [mov, e]; simp [this]; simpa using c3
  exact key R 0 (by omega)
theorem c_Sc_isHeld_33 {l : Launch} {h : Nat} {mi : TMi} {ml : TMl} {z : Nat} {w lw B R : Nat} {L T : Nat → Nat → Int} {wo : Nat → Option Nat} {rm : Nat → Nat} {Q : Int32 → TMi → TMl → Nat → Prop} (hwn : SH[w]? = some (.inr (0, lw))) (hlw : 6 ≤ lw ∧ lw < 1000) (hB : mi 18 0 = nI B) (hB6 : B ≤ 6) (hR : mi 18 1 = nI R) (hR4 : R ≤ 4) (hs : SLp mi 35 36 37 38 39 B R allP L T) (hw : isW (mi w) B R wo) (hrm : ∀ r, r < R → mi 34 (12 + r) = nI (rm r) ∧ rm r < 100) (hq : Q (bI (heldS B R L T rm wo)) mi ml z) : CI l (h + 5) m_Sc_isHeld [.ref 33, .ref w] mi ml z Q := by
  refine t_Sc_isHeld_33 mi ml z w lw hwn ?_
  have hz : ∀ b, (nI (enc (fun r => brk B L T rm wo b r) R) = 0) ↔ alln (fun r => !brk B L T rm wo b r) R = true := fun b => by
    have h16 : enc (fun r => brk B L T rm wo b r) R < 2 ^ R := enc_lt _ R
    have := pow16 hR4
    constructor
    · intro h
      have h0 : enc (fun r => brk B L T rm wo b r) R = 0 := nI_inj (b := 0) (by omega) (by decide) h
      exact alln_iff.mpr (fun r hr => by simp [enc_zero.mp h0 r hr])
    · intro h
      have : enc (fun r => brk B L T rm wo b r) R = 0 := enc_zero.mpr (fun r hr => by have := alln_iff.mp h r hr; simpa using this)
      rw [this]; rfl
  have key : ∀ k i, i + k = B → alln (fun b => wnt L T wo b && alln (fun r => !brk B L T rm wo b r) R) i = true → Ev l (h + 5) m_Sc_isHeld 2 ([.ref 33, .ref w, .int (nI i)], [], st mi ml z) (qI Q) := by
    intro k
    induction k with
    | zero =>
      intro i hi ha
      have : i = B := by omega
      subst this
      rw [show heldS i R L T rm wo = true from ha] at hq
      exact t_Sc_isHeld_33_2 mi ml z w lw _ hwn ⟨fun _ => hq, fun c => absurd (by rw [hB]; exact nI_le (Nat.le_refl _) (by omega)) c⟩
    | succ k ih =>
      intro i hi ha
      have hib : i < B := by omega
      have hin : vp_in (nI i) lw := in_nI (by omega) (by omega)
      have h2 := isW_none hw hR4 hib
      refine t_Sc_isHeld_33_2 mi ml z w lw _ hwn ⟨fun c => ?_, fun _ => ⟨hin, ?_⟩⟩
      · rw [hB] at c
        exact absurd c (nI_ge (by omega) (by omega))
      · rw [cl_nI (by omega)]
        have br : wnt L T wo i = true → CI l (h + 4) m_Sc_breakersOf [.ref 33, .ref w, .int (nI i)] mi ml z (fun x4 mi4 ml4 z4 => ((x4 = 0 → Ev l (h + 4 + 1) m_Sc_isHeld 2 ([.ref 33, .ref w, .int (nI i + 1)], [], st mi4 ml4 z4) (qI Q)) ∧ (¬ x4 = 0 → Q 0 mi4 ml4 z4))) := fun hwi => by
          refine c_Sc_breakersOf_33 hwn hlw hB hB6 hR hR4 hs hw hib hrm ⟨fun c => ?_, fun c => ?_⟩
          · rw [hz] at c
            rw [nI_1]
            exact ih (i + 1) (by omega) (by simp only [alln] at ha ⊢; simp [ha, hwi, c])
          · rw [hz] at c
            rw [show heldS B R L T rm wo = false from alln_false hib (by rw [show alln (fun r => !brk B L T rm wo i r) R = false by simpa using c]; simp)] at hq
            exact hq
        refine ⟨fun c => br (by have e : wo i = none := by rw [c] at h2; simpa using h2
                                simp [wnt, e]), fun c => ⟨hin, ?_⟩⟩
        cases e : wo i with
        | none => exfalso; apply c; rw [(hw i hib).1, e]; rfl
        | some r' =>
          have hr' := (hw i hib).2 r' e
          rw [show mi w i = nI r' by rw [(hw i hib).1, e]; rfl]
          refine c_Sc_bothWould_33 hB6 hR4 hs hib hr' ⟨fun c2 => ?_, fun c2 => br ?_⟩
          · rw [bI_0] at c2
            rw [show heldS B R L T rm wo = false from alln_false hib (by simp only [wnt, e, c2]; simp)] at hq
            exact hq
          · rw [bI_0] at c2
            simp only [wnt, e]; simpa using c2
  exact key B 0 (by omega) rfl
