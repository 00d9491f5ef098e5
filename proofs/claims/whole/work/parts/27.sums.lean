/-! ===== ranks, flows, floods, sums ===== -/
theorem loop {P : Nat → Prop} (N : Nat) (h0 : P N) (hs : ∀ i, i < N → P (i + 1) → P i) : P 0 := by
  have key : ∀ k i, i + k = N → P i := by
    intro k
    induction k with
    | zero => intro i hi; have : i = N := by omega
              subst this; exact h0
    | succ k ih => intro i hi; exact hs i (by omega) (ih (i + 1) (by omega))
  exact key N 0 (by omega)
theorem le_at {g : Int32} {N : Nat} (h : g = nI N) (hN : N < 2 ^ 31) : g ≤ nI N := by rw [h]; exact nI_le (Nat.le_refl _) hN
theorem ge_no {g : Int32} {N i : Nat} (h : g = nI N) (hN : N < 2 ^ 31) (hi : i < N) : ¬ g ≤ nI i := by rw [h]; exact nI_ge hi hN
theorem cnt_s {p : Nat → Bool} {i : Nat} (h : p i = true) : nI (cnt p i) + 1 = nI (cnt p (i + 1)) := by rw [nI_1]; simp [cnt, h]
theorem cnt_n {p : Nat → Bool} {i : Nat} (h : p i = false) : nI (cnt p i) = nI (cnt p (i + 1)) := by simp [cnt, h]
theorem smn_s {p : Nat → Bool} {f : Nat → Nat} {i : Nat} (h : p i = true) : nI (smn p f i) + nI (f i) = nI (smn p f (i + 1)) := by rw [nI_add]; simp [smn, h]
theorem smn_n {p : Nat → Bool} {f : Nat → Nat} {i : Nat} (h : p i = false) : nI (smn p f i) = nI (smn p f (i + 1)) := by simp [smn, h]
def rkO (L : Nat → Nat → Int) (R b r : Nat) : Nat := cnt (fun o => decide (pbO L b r < pbO L b o)) R
theorem c_R_rankOf {l : Launch} {h : Nat} {mi : TMi} {ml : TMl} {z : Nat} {b B R : Nat} {x : Option Nat} {Q : Int32 → TMi → TMl → Nat → Prop} (hB6 : B ≤ 6) (hR : mi 120 2 = nI R) (hR4 : R ≤ 4) (hd : bdA mi 126 B R) (hb : b < B) (hx : ∀ r, x = some r → r < R) (hq : Q (nI (match x with | none => 9 | some r => rkO (Lk mi 126) R b r)) mi ml z) : CI l (h + 2) m_R_rankOf [.ref 119, .int (nI b), .int (oI x)] mi ml z Q := by
  cases x with
  | none => exact t_R_rankOf mi ml z _ _ ⟨fun c => absurd rfl c, fun _ => hq⟩
  | some r =>
    have hr := hx r rfl
    refine t_R_rankOf mi ml z _ _ ⟨fun _ => ?_, fun c => absurd c (neg1_ne (by omega))⟩
    refine loop (P := fun i => Ev l (h + 2) m_R_rankOf 13 ([.ref 119, .int (nI b), .int (nI r), .int (nI (cnt (fun o => decide (pbO (Lk mi 126) b r < pbO (Lk mi 126) b o)) i)), .int (nI i)], [], st mi ml z) (qI Q)) R ?_ (fun i hi ih => ?_)
    · exact t_R_rankOf_13 mi ml z _ _ _ _ ⟨fun _ => hq, fun c => absurd (le_at hR (by omega)) c⟩
    · refine t_R_rankOf_13 mi ml z _ _ _ _ ⟨fun c => absurd c (ge_no hR (by omega) hi), fun _ => ⟨fun c => ?_, fun c => c_R_likesMore hB6 hR4 hd hb hr hi ⟨fun c => ?_, fun c => ?_⟩⟩⟩
      · have e : i = r := nI_inj (by omega) (by omega) c
        subst e
        rw [Int32.add_zero, nI_1, cnt_n (p := fun o => decide (pbO (Lk mi 126) b i < pbO (Lk mi 126) b o)) (by simp)]
        exact ih
      · rw [bI_0] at c
        rw [Int32.add_zero, nI_1, cnt_n (p := fun o => decide (pbO (Lk mi 126) b r < pbO (Lk mi 126) b o)) c]
        exact ih
      · rw [bI_0, Bool.not_eq_false] at c
        rw [cnt_s (p := fun o => decide (pbO (Lk mi 126) b r < pbO (Lk mi 126) b o)) c, nI_1]
        exact ih
theorem c_R_riversOf {l : Launch} {h : Nat} {mi : TMi} {ml : TMl} {z : Nat} {b R : Nat} {Q : Int32 → TMi → TMl → Nat → Prop} (hb : b < 6) (hR : mi 120 2 = nI R) (hR4 : R ≤ 4) (hq : Q (nI (enc (fun r => wdO (Lk mi 126) (Lk mi 127) b r) R)) mi ml z) : CI l (h + 2) m_R_riversOf [.ref 119, .int (nI b)] mi ml z Q := by
  refine t_R_riversOf mi ml z _ ?_
  refine loop (P := fun i => Ev l (h + 2) m_R_riversOf 4 ([.ref 119, .int (nI b), .int (nI (enc (fun r => wdO (Lk mi 126) (Lk mi 127) b r) i)), .int (nI i)], [], st mi ml z) (qI Q)) R ?_ (fun i hi ih => ?_)
  · exact t_R_riversOf_4 mi ml z _ _ _ ⟨fun _ => hq, fun c => absurd (le_at hR (by omega)) c⟩
  · refine t_R_riversOf_4 mi ml z _ _ _ ⟨fun c => absurd c (ge_no hR (by omega) hi), fun _ => c_R_wouldBoth hb (by omega) ⟨fun c => ?_, fun c => ?_⟩⟩
    · rw [bI_0] at c
      rw [or_zero, nI_1, enc_skip (p := fun r => wdO (Lk mi 126) (Lk mi 127) b r) c]
      exact ih
    · rw [bI_0, Bool.not_eq_false] at c
      rw [enc_step (p := fun r => wdO (Lk mi 126) (Lk mi 127) b r) (by omega) c, nI_1]
      exact ih
/-- whether a river floods by those of its becks that are left -/
def flR (B : Nat) (f bs : Nat → Nat) (wo : Nat → Option Nat) (lf : Nat → Bool) (r : Nat) : Bool := decide (bs r < smn (fun b => (wo b == some r) && lf b) f B)
theorem flR_congr {B : Nat} {f bs : Nat → Nat} {wo wo' : Nat → Option Nat} {lf lf' : Nat → Bool} {r : Nat} (h : ∀ b, b < B → ((wo b == some r) && lf b) = ((wo' b == some r) && lf' b)) : flR B f bs wo lf r = flR B f bs wo' lf' r := by
  unfold flR
  rw [smn_congr h (fun _ _ => rfl)]
def okF (B : Nat) (f : Nat → Nat) : Prop := ∀ b, b < B → f b ≤ 9
theorem smn_54 {p : Nat → Bool} {f : Nat → Nat} {B : Nat} (hB6 : B ≤ 6) (hf : okF B f) : smn p f B ≤ 54 := by
  have h1 := smn_le p f 9 B hf
  have h2 : B * 9 ≤ 6 * 9 := Nat.mul_le_mul_right 9 hB6
  omega
theorem c_R_floodSet {l : Launch} {h : Nat} {mi : TMi} {ml : TMl} {z : Nat} {B R : Nat} {wo : Nat → Option Nat} {f bs : Nat → Nat} {Q : Int32 → TMi → TMl → Nat → Prop} (hB : mi 120 1 = nI B) (hB6 : B ≤ 6) (hR : mi 120 2 = nI R) (hR4 : R ≤ 4) (hw : isW (fun b => mi 120 (29 + b)) B R wo) (hf : ∀ b, b < B → mi 120 (35 + b) = nI (f b)) (hf9 : okF B f) (hbs : ∀ r, r < R → mi 120 (25 + r) = nI (bs r) ∧ bs r ≤ 99) (hq : Q (nI (enc (flR B f bs wo (fun _ => true)) R)) mi ml z) : CI l (h + 3) m_R_floodSet [.ref 119] mi ml z Q := by
  refine t_R_floodSet mi ml z ?_
  refine loop (P := fun i => Ev l (h + 3) m_R_floodSet 4 ([.ref 119, .int (nI (enc (flR B f bs wo (fun _ => true)) i)), .int (nI i)], [], st mi ml z) (qI Q)) R ?_ (fun i hi ih => ?_)
  · exact t_R_floodSet_4 mi ml z _ _ ⟨fun _ => hq, fun c => absurd (le_at hR (by omega)) c⟩
  · refine t_R_floodSet_4 mi ml z _ _ ⟨fun c => absurd c (ge_no hR (by omega) hi), fun _ => c_R_becksIn hB hB6 ?_⟩
    rw [isW_enc hw hR4 (show i < 4 by omega)]
    refine c_R_flowOf hB hB6 (enc_64 _ hB6) hf ⟨in_addL (a := 25) (by omega) (by decide), ?_⟩
    have e : smn (fun b => tb (enc (fun b => wo b == some i) B) b) f B = smn (fun b => (wo b == some i) && true) f B := by
      rw [smn_enc]; exact smn_congr (fun b _ => by simp) (fun _ _ => rfl)
    have h54 := smn_54 (p := fun b => (wo b == some i) && true) hB6 hf9
    have hb99 := (hbs i hi).2
    rw [addL_cl 25 i (by omega), (hbs i hi).1, e, nI_leI (by omega) (by omega)]
    refine ⟨fun c => ?_, fun c => ?_⟩
    · rw [or_zero, nI_1, enc_skip (p := flR B f bs wo (fun _ => true)) (by unfold flR; dsimp only; exact decide_eq_false (by omega))]
      exact ih
    · rw [enc_step (p := flR B f bs wo (fun _ => true)) (by omega) (by unfold flR; dsimp only; exact decide_eq_true (by omega)), nI_1]
      exact ih
/-- sums of ints -/
def sumI (g : Nat → Int32) (a : Nat) : Nat → Int32
  | 0 => 0
  | n + 1 => sumI g a n + g (a + n)
theorem c_R_sumOf {l : Launch} {h : Nat} {mi : TMi} {ml : TMl} {z : Nat} {a n : Nat} {Q : Int32 → TMi → TMl → Nat → Prop} (ha : a + n < 4113) (hq : Q (sumI (mi 120) a n) mi ml z) : CI l (h + 1) m_R_sumOf [.ref 119, .int (nI a), .int (nI n)] mi ml z Q := by
  refine t_R_sumOf mi ml z _ _ ?_
  refine loop (P := fun i => Ev l (h + 1) m_R_sumOf 5 ([.ref 119, .int (nI a), .int (nI n), .int (sumI (mi 120) a i), .int (nI i)], [], st mi ml z) (qI Q)) n ?_ (fun i hi ih => ?_)
  · exact t_R_sumOf_5 mi ml z _ _ _ _ ⟨fun _ => hq, fun c => absurd (le_at rfl (by omega)) c⟩
  · refine t_R_sumOf_5 mi ml z _ _ _ _ ⟨fun c => absurd c (ge_no rfl (by omega) hi), fun _ => ⟨in_add (by omega) (by decide), ?_⟩⟩
    rw [add_cl a i (by omega), nI_1]
    exact ih
theorem and6 : ∀ a, a < 64 → ∀ b, b < 64 → nI a &&& nI b = nI (a &&& b) := by decide +kernel
theorem and6_lt : ∀ a, a < 64 → ∀ b, b < 64 → a &&& b < 64 := by decide +kernel
theorem and6_tb : ∀ a, a < 64 → ∀ b, b < 64 → ∀ i, i < 6 → tb (a &&& b) i = (tb a i && tb b i) := by decide +kernel
theorem allB : ∀ B, B < 7 → ((1 : Int32) <<< (nI B &&& 31)) - 1 = nI (2 ^ B - 1) := by decide
theorem allB_lt : ∀ B, B < 7 → 2 ^ B - 1 < 64 := by decide
theorem allB_tb : ∀ B, B < 7 → ∀ b, b < B → tb (2 ^ B - 1) b = true := by decide
theorem off6 : ∀ B, B < 7 → ∀ o, o < 2 ^ B → nI (2 ^ B - 1) &&& (nI o ^^^ (-1)) = nI (2 ^ B - 1 - o) := by decide +kernel
theorem off6_tb : ∀ B, B < 7 → ∀ o, o < 2 ^ B → ∀ b, b < B → tb (2 ^ B - 1 - o) b = !tb o b := by decide +kernel
theorem c_allBecks {l : Launch} {h : Nat} {mi : TMi} {ml : TMl} {z : Nat} {B : Nat} {Q : Int32 → TMi → TMl → Nat → Prop} (hB : mi 18 0 = nI B) (hB6 : B ≤ 6) (hq : Q (nI (2 ^ B - 1)) mi ml z) : CI l (h + 1) m_La_allBecks [.ref 18] mi ml z Q := by
  refine t_La_allBecks_18 mi ml z ?_
  rw [hB, allB B (by omega)]
  exact hq
theorem c_hasBeck {l : Launch} {h : Nat} {mi : TMi} {ml : TMl} {z : Nat} {x : Int32} {B : Nat} {Q : Int32 → TMi → TMl → Nat → Prop} (hB : mi 18 0 = nI B) (hB6 : B ≤ 6) (hq : Q (bI (decide (0 ≤ x.toInt ∧ x.toInt < B))) mi ml z) : CI l (h + 1) m_La_hasBeck [.ref 18, .int x] mi ml z Q := by
  refine t_La_hasBeck_18 mi ml z _ ⟨fun c => ?_, fun c => ⟨fun c2 => ?_, fun c2 => ?_⟩⟩
  · rw [Int32.lt_iff_toInt_lt, Int32.toInt_zero] at c
    rw [decide_eq_false (by omega)] at hq; exact hq
  · rw [hB, Int32.le_iff_toInt_le, nI_toInt (by omega)] at c2
    rw [decide_eq_false (by omega)] at hq; exact hq
  · rw [Int32.lt_iff_toInt_lt, Int32.toInt_zero] at c
    rw [hB, Int32.le_iff_toInt_le, nI_toInt (by omega)] at c2
    rw [decide_eq_true (by omega)] at hq; exact hq
theorem c_hasRiver {l : Launch} {h : Nat} {mi : TMi} {ml : TMl} {z : Nat} {x : Int32} {R : Nat} {Q : Int32 → TMi → TMl → Nat → Prop} (hR : mi 18 1 = nI R) (hR4 : R ≤ 4) (hq : Q (bI (decide (0 ≤ x.toInt ∧ x.toInt < R))) mi ml z) : CI l (h + 1) m_La_hasRiver [.ref 18, .int x] mi ml z Q := by
  refine t_La_hasRiver_18 mi ml z _ ⟨fun c => ?_, fun c => ⟨fun c2 => ?_, fun c2 => ?_⟩⟩
  · rw [Int32.lt_iff_toInt_lt, Int32.toInt_zero] at c
    rw [decide_eq_false (by omega)] at hq; exact hq
  · rw [hR, Int32.le_iff_toInt_le, nI_toInt (by omega)] at c2
    rw [decide_eq_false (by omega)] at hq; exact hq
  · rw [Int32.lt_iff_toInt_lt, Int32.toInt_zero] at c
    rw [hR, Int32.le_iff_toInt_le, nI_toInt (by omega)] at c2
    rw [decide_eq_true (by omega)] at hq; exact hq
/-- the first of the fewest -/
def fwst (ok : Nat → Bool) (s : Nat) : Nat → Nat
  | 0 => s
  | n + 1 => if decide (pop6 n < pop6 (fwst ok s n)) && ok n then n else fwst ok s n
theorem fwst_lt {ok : Nat → Bool} {s : Nat} : ∀ {n : Nat}, n ≤ s + 1 → fwst ok s n ≤ s
  | 0, _ => Nat.le_refl _
  | n + 1, h => by
    simp only [fwst]
    split
    · omega
    · exact fwst_lt (by omega)
theorem pop6_le (m : Nat) : pop6 m ≤ 6 := cnt_le _ 6
theorem c_Sc_rankOf_17 {l : Launch} {h : Nat} {mi : TMi} {ml : TMl} {z : Nat} {b r B R : Nat} {L T : Nat → Nat → Int} {Q : Int32 → TMi → TMl → Nat → Prop} (hB6 : B ≤ 6) (hR : mi 18 1 = nI R) (hR4 : R ≤ 4) (hs : SLp mi 28 29 30 31 32 B R allP L T) (hb : b < B) (hr : r < R) (hq : Q (nI (rkO L R b r)) mi ml z) : CI l (h + 3) m_Sc_rankOf [.ref 17, .int (nI b), .int (nI r)] mi ml z Q := by
  refine t_Sc_rankOf_17 mi ml z _ _ ?_
  refine loop (P := fun i => Ev l (h + 3) m_Sc_rankOf 5 ([.ref 17, .int (nI b), .int (nI r), .int (nI (cnt (fun o => decide (pbO L b r < pbO L b o)) i)), .int (nI i)], [], st mi ml z) (qI Q)) R ?_ (fun i hi ih => ?_)
  · exact t_Sc_rankOf_17_5 mi ml z _ _ _ _ ⟨fun _ => hq, fun c => absurd (le_at hR (by omega)) c⟩
  · refine t_Sc_rankOf_17_5 mi ml z _ _ _ _ ⟨fun c => absurd c (ge_no hR (by omega) hi), fun _ => c_Sc_likesBetter_17 hB6 hR4 hs hb hi hr ⟨fun c => ?_, fun c => ?_⟩⟩
    · rw [bI_0] at c
      rw [nI_1, cnt_n (p := fun o => decide (pbO L b r < pbO L b o)) c]
      exact ih
    · rw [bI_0, Bool.not_eq_false] at c
      rw [cnt_s (p := fun o => decide (pbO L b r < pbO L b o)) c, nI_1]
      exact ih
theorem c_Sc_flowOfSet_17 {l : Launch} {h : Nat} {mi : TMi} {ml : TMl} {z : Nat} {m B : Nat} {f : Nat → Nat} {Q : Int32 → TMi → TMl → Nat → Prop} (hB : mi 18 0 = nI B) (hB6 : B ≤ 6) (hm : m < 64) (hf : ∀ b, b < B → mi 27 (6 + b) = nI (f b)) (hq : Q (nI (smn (fun b => tb m b) f B)) mi ml z) : CI l (h + 2) m_Sc_flowOfSet [.ref 17, .int (nI m)] mi ml z Q := by
  refine t_Sc_flowOfSet_17 mi ml z _ ?_
  refine loop (P := fun i => Ev l (h + 2) m_Sc_flowOfSet 4 ([.ref 17, .int (nI m), .int (nI (smn (fun b => tb m b) f i)), .int (nI i)], [], st mi ml z) (qI Q)) B ?_ (fun i hi ih => ?_)
  · exact t_Sc_flowOfSet_17_4 mi ml z _ _ _ ⟨fun _ => hq, fun c => absurd (le_at hB (by omega)) c⟩
  · refine t_Sc_flowOfSet_17_4 mi ml z _ _ _ ⟨fun c => absurd c (ge_no hB (by omega) hi), fun _ => ⟨fun c => ?_, fun c => t_Sc_flowOf_17 _ _ _ _ ⟨in_addL (a := 6) (by omega) (by decide), ?_⟩⟩⟩
    · rw [sr_tb hm (by omega)] at c
      rw [nI_1, smn_n (p := fun b => tb m b) c]
      exact ih
    · rw [sr_tb hm (by omega), Bool.not_eq_false] at c
      rw [addL_cl 6 i (by omega), hf i hi, smn_s (p := fun b => tb m b) c, nI_1]
      exact ih
theorem c_Sc_overflows_17 {l : Launch} {h : Nat} {mi : TMi} {ml : TMl} {z : Nat} {r m B R : Nat} {wo : Nat → Option Nat} {f bs : Nat → Nat} {Q : Int32 → TMi → TMl → Nat → Prop} (hB : mi 18 0 = nI B) (hB6 : B ≤ 6) (hR4 : R ≤ 4) (hw : isW (mi 27) B R wo) (hf : ∀ b, b < B → mi 27 (6 + b) = nI (f b)) (hf9 : okF B f) (hr : r < R) (hbs : mi 25 r = nI (bs r) ∧ bs r ≤ 99) (hm : m < 64) (hq : Q (bI (flR B f bs wo (fun b => tb m b) r)) mi ml z) : CI l (h + 3) m_Sc_overflows [.ref 17, .int (nI r), .int (nI m)] mi ml z Q := by
  refine t_Sc_overflows_17 mi ml z _ _ (c_Sc_becksIn_17 (lw := 40) rfl (by decide) hB hB6 ?_)
  rw [isW_enc hw hR4 (show r < 4 by omega), and6 _ (enc_64 _ hB6) m hm]
  refine c_Sc_flowOfSet_17 hB hB6 (and6_lt _ (enc_64 _ hB6) m hm) hf ⟨in_nI (by omega) (by decide), ?_⟩
  have e : smn (fun b => tb (enc (fun b => wo b == some r) B &&& m) b) f B = smn (fun b => (wo b == some r) && tb m b) f B :=
    smn_congr (fun b hb => by rw [and6_tb _ (enc_64 _ hB6) m hm b (by omega), enc_tb _ B b hb]) (fun _ _ => rfl)
  have h54 := smn_54 (p := fun b => (wo b == some r) && tb m b) hB6 hf9
  rw [cl_nI (by omega), hbs.1, e, nI_leI (by omega) (by omega)]
  unfold flR at hq
  dsimp only at hq
  refine ⟨fun c => ?_, fun c => ?_⟩
  · rw [decide_eq_false (by omega)] at hq; exact hq
  · rw [decide_eq_true (by omega)] at hq; exact hq
theorem c_Sc_floodedOf_17 {l : Launch} {h : Nat} {mi : TMi} {ml : TMl} {z : Nat} {m B R : Nat} {wo : Nat → Option Nat} {f bs : Nat → Nat} {Q : Int32 → TMi → TMl → Nat → Prop} (hB : mi 18 0 = nI B) (hB6 : B ≤ 6) (hR : mi 18 1 = nI R) (hR4 : R ≤ 4) (hw : isW (mi 27) B R wo) (hf : ∀ b, b < B → mi 27 (6 + b) = nI (f b)) (hf9 : okF B f) (hbs : ∀ r, r < R → mi 25 r = nI (bs r) ∧ bs r ≤ 99) (hm : m < 64) (hq : Q (nI (enc (flR B f bs wo (fun b => tb m b)) R)) mi ml z) : CI l (h + 4) m_Sc_floodedOf [.ref 17, .int (nI m)] mi ml z Q := by
  refine t_Sc_floodedOf_17 mi ml z _ ?_
  refine loop (P := fun i => Ev l (h + 4) m_Sc_floodedOf 4 ([.ref 17, .int (nI m), .int (nI (enc (flR B f bs wo (fun b => tb m b)) i)), .int (nI i)], [], st mi ml z) (qI Q)) R ?_ (fun i hi ih => ?_)
  · exact t_Sc_floodedOf_17_4 mi ml z _ _ _ ⟨fun _ => hq, fun c => absurd (le_at hR (by omega)) c⟩
  · refine t_Sc_floodedOf_17_4 mi ml z _ _ _ ⟨fun c => absurd c (ge_no hR (by omega) hi), fun _ => c_Sc_overflows_17 hB hB6 hR4 hw hf hf9 hi (hbs i hi) hm ⟨fun c => ?_, fun c => ?_⟩⟩
    · rw [bI_0] at c
      rw [nI_1, enc_skip (p := flR B f bs wo (fun b => tb m b)) c]
      exact ih
    · rw [bI_0, Bool.not_eq_false] at c
      rw [enc_step (p := flR B f bs wo (fun b => tb m b)) (by omega) c, nI_1]
      exact ih
theorem c_Sc_flooded_17 {l : Launch} {h : Nat} {mi : TMi} {ml : TMl} {z : Nat} {B R : Nat} {wo : Nat → Option Nat} {f bs : Nat → Nat} {Q : Int32 → TMi → TMl → Nat → Prop} (hB : mi 18 0 = nI B) (hB6 : B ≤ 6) (hR : mi 18 1 = nI R) (hR4 : R ≤ 4) (hw : isW (mi 27) B R wo) (hf : ∀ b, b < B → mi 27 (6 + b) = nI (f b)) (hf9 : okF B f) (hbs : ∀ r, r < R → mi 25 r = nI (bs r) ∧ bs r ≤ 99) (hq : Q (nI (enc (flR B f bs wo (fun _ => true)) R)) mi ml z) : CI l (h + 5) m_Sc_flooded [.ref 17] mi ml z Q := by
  refine t_Sc_flooded_17 mi ml z (c_allBecks hB hB6 (c_Sc_floodedOf_17 hB hB6 hR hR4 hw hf hf9 hbs (allB_lt B (by omega)) ?_))
  rw [enc_congr (q := flR B f bs wo (fun _ => true)) (fun r _ => flR_congr (fun b hb => by rw [allB_tb B (by omega) b hb]))]
  exact hq
theorem c_Sc_total_17 {l : Launch} {h : Nat} {mi : TMi} {ml : TMl} {z : Nat} {a n : Nat} {Q : Int32 → TMi → TMl → Nat → Prop} (ha : a + n ≤ 40) (hq : Q (sumI (mi 27) a n) mi ml z) : CI l (h + 1) m_Sc_total [.ref 17, .int (nI a), .int (nI n)] mi ml z Q := by
  refine t_Sc_total_17 mi ml z _ _ ?_
  refine loop (P := fun i => Ev l (h + 1) m_Sc_total 5 ([.ref 17, .int (nI a), .int (nI n), .int (sumI (mi 27) a i), .int (nI (a + i))], [], st mi ml z) (qI Q)) n ?_ (fun i hi ih => ?_)
  · exact t_Sc_total_17_5 mi ml z _ _ _ _ ⟨fun _ => hq, fun c => absurd (le_at (nI_add a n) (by omega)) c⟩
  · refine t_Sc_total_17_5 mi ml z _ _ _ _ ⟨fun c => absurd c (ge_no (nI_add a n) (by omega) (by omega)), fun _ => ⟨fun c => absurd c (ge_no (N := 40) rfl (by decide) (by omega)), fun _ => ⟨in_nI (by omega) (by decide), ?_⟩⟩⟩
    rw [cl_nI (by omega), nI_1]
    exact ih
theorem c_Sc_fewest_17 {l : Launch} {h : Nat} {mi : TMi} {ml : TMl} {z : Nat} {B R : Nat} {wo : Nat → Option Nat} {f bs : Nat → Nat} {Q : Int32 → TMi → TMl → Nat → Prop} (hB : mi 18 0 = nI B) (hB6 : B ≤ 6) (hR : mi 18 1 = nI R) (hR4 : R ≤ 4) (hw : isW (mi 27) B R wo) (hf : ∀ b, b < B → mi 27 (6 + b) = nI (f b)) (hf9 : okF B f) (hbs : ∀ r, r < R → mi 25 r = nI (bs r) ∧ bs r ≤ 99) (hq : Q (nI (fwst (fun o => enc (flR B f bs wo (fun b => !tb o b)) R == 0) (2 ^ B - 1) (2 ^ B - 1))) mi ml z) : CI l (h + 5) m_Sc_fewestToTurnOff [.ref 17] mi ml z Q := by
  refine t_Sc_fewestToTurnOff_17 mi ml z (c_allBecks hB hB6 ?_)
  have h64 := allB_lt B (by omega)
  have hpos : 0 < 2 ^ B := Nat.two_pow_pos B
  refine loop (P := fun i => Ev l (h + 5) m_Sc_fewestToTurnOff 12 ([.ref 17, .int (nI (2 ^ B - 1)), .int (nI (fwst (fun o => enc (flR B f bs wo (fun b => !tb o b)) R == 0) (2 ^ B - 1) i)), .int (nI i)], [], st mi ml z) (qI Q)) (2 ^ B - 1) ?_ (fun i hi ih => ?_)
  · exact t_Sc_fewestToTurnOff_17_12 mi ml z _ _ _ ⟨fun _ => hq, fun c => absurd (le_at rfl (by omega)) c⟩
  · have hfw := fwst_lt (ok := fun o => enc (flR B f bs wo (fun b => !tb o b)) R == 0) (s := 2 ^ B - 1) (n := i) (by omega)
    refine t_Sc_fewestToTurnOff_17_12 mi ml z _ _ _ ⟨fun c => absurd c (ge_no rfl (by omega) hi), fun _ => c_bitCount (by omega) (c_bitCount (by omega) ?_)⟩
    have p1 := pop6_le i
    have p2 := pop6_le (fwst (fun o => enc (flR B f bs wo (fun b => !tb o b)) R == 0) (2 ^ B - 1) i)
    rw [nI_leI (by omega) (by omega), nI_1]
    simp only [fwst] at ih
    refine ⟨fun c => ?_, fun c => ?_⟩
    · rw [decide_eq_false (by omega), Bool.false_and, if_neg (by decide)] at ih
      exact ih
    · rw [decide_eq_true (by omega), Bool.true_and] at ih
      rw [off6 B (by omega) i (by omega)]
      refine c_Sc_floodedOf_17 hB hB6 hR hR4 hw hf hf9 hbs (by omega) ?_
      have e : enc (flR B f bs wo (fun b => tb (2 ^ B - 1 - i) b)) R = enc (flR B f bs wo (fun b => !tb i b)) R := enc_congr (fun r _ => flR_congr (fun b hb => by rw [off6_tb B (by omega) i (by omega) b hb]))
      have h16 : enc (flR B f bs wo (fun b => !tb i b)) R < 2 ^ R := enc_lt _ R
      have := pow16 hR4
      rw [e]
      refine ⟨fun c => ?_, fun c => ?_⟩
      · rw [if_neg (by intro q; apply c; rw [beq_iff_eq.mp q]; rfl)] at ih
        exact ih
      · rw [if_pos (by rw [beq_iff_eq]; exact nI_inj (b := 0) (by omega) (by decide) c)] at ih
        exact ih
theorem c_Sc_rankOf_33 {l : Launch} {h : Nat} {mi : TMi} {ml : TMl} {z : Nat} {b r B R : Nat} {L T : Nat → Nat → Int} {Q : Int32 → TMi → TMl → Nat → Prop} (hB6 : B ≤ 6) (hR : mi 18 1 = nI R) (hR4 : R ≤ 4) (hs : SLp mi 35 36 37 38 39 B R allP L T) (hb : b < B) (hr : r < R) (hq : Q (nI (rkO L R b r)) mi ml z) : CI l (h + 3) m_Sc_rankOf [.ref 33, .int (nI b), .int (nI r)] mi ml z Q := by
  refine t_Sc_rankOf_33 mi ml z _ _ ?_
  refine loop (P := fun i => Ev l (h + 3) m_Sc_rankOf 5 ([.ref 33, .int (nI b), .int (nI r), .int (nI (cnt (fun o => decide (pbO L b r < pbO L b o)) i)), .int (nI i)], [], st mi ml z) (qI Q)) R ?_ (fun i hi ih => ?_)
  · exact t_Sc_rankOf_33_5 mi ml z _ _ _ _ ⟨fun _ => hq, fun c => absurd (le_at hR (by omega)) c⟩
  · refine t_Sc_rankOf_33_5 mi ml z _ _ _ _ ⟨fun c => absurd c (ge_no hR (by omega) hi), fun _ => c_Sc_likesBetter_33 hB6 hR4 hs hb hi hr ⟨fun c => ?_, fun c => ?_⟩⟩
    · rw [bI_0] at c
      rw [nI_1, cnt_n (p := fun o => decide (pbO L b r < pbO L b o)) c]
      exact ih
    · rw [bI_0, Bool.not_eq_false] at c
      rw [cnt_s (p := fun o => decide (pbO L b r < pbO L b o)) c, nI_1]
      exact ih
theorem c_Sc_flowOfSet_33 {l : Launch} {h : Nat} {mi : TMi} {ml : TMl} {z : Nat} {m B : Nat} {f : Nat → Nat} {Q : Int32 → TMi → TMl → Nat → Prop} (hB : mi 18 0 = nI B) (hB6 : B ≤ 6) (hm : m < 64) (hf : ∀ b, b < B → mi 34 (6 + b) = nI (f b)) (hq : Q (nI (smn (fun b => tb m b) f B)) mi ml z) : CI l (h + 2) m_Sc_flowOfSet [.ref 33, .int (nI m)] mi ml z Q := by
  refine t_Sc_flowOfSet_33 mi ml z _ ?_
  refine loop (P := fun i => Ev l (h + 2) m_Sc_flowOfSet 4 ([.ref 33, .int (nI m), .int (nI (smn (fun b => tb m b) f i)), .int (nI i)], [], st mi ml z) (qI Q)) B ?_ (fun i hi ih => ?_)
  · exact t_Sc_flowOfSet_33_4 mi ml z _ _ _ ⟨fun _ => hq, fun c => absurd (le_at hB (by omega)) c⟩
  · refine t_Sc_flowOfSet_33_4 mi ml z _ _ _ ⟨fun c => absurd c (ge_no hB (by omega) hi), fun _ => ⟨fun c => ?_, fun c => t_Sc_flowOf_33 _ _ _ _ ⟨in_addL (a := 6) (by omega) (by decide), ?_⟩⟩⟩
    · rw [sr_tb hm (by omega)] at c
      rw [nI_1, smn_n (p := fun b => tb m b) c]
      exact ih
    · rw [sr_tb hm (by omega), Bool.not_eq_false] at c
      rw [addL_cl 6 i (by omega), hf i hi, smn_s (p := fun b => tb m b) c, nI_1]
      exact ih
theorem c_Sc_overflows_33 {l : Launch} {h : Nat} {mi : TMi} {ml : TMl} {z : Nat} {r m B R : Nat} {wo : Nat → Option Nat} {f bs : Nat → Nat} {Q : Int32 → TMi → TMl → Nat → Prop} (hB : mi 18 0 = nI B) (hB6 : B ≤ 6) (hR4 : R ≤ 4) (hw : isW (mi 34) B R wo) (hf : ∀ b, b < B → mi 34 (6 + b) = nI (f b)) (hf9 : okF B f) (hr : r < R) (hbs : mi 25 r = nI (bs r) ∧ bs r ≤ 99) (hm : m < 64) (hq : Q (bI (flR B f bs wo (fun b => tb m b) r)) mi ml z) : CI l (h + 3) m_Sc_overflows [.ref 33, .int (nI r), .int (nI m)] mi ml z Q := by
  refine t_Sc_overflows_33 mi ml z _ _ (c_Sc_becksIn_33 (lw := 40) rfl (by decide) hB hB6 ?_)
  rw [isW_enc hw hR4 (show r < 4 by omega), and6 _ (enc_64 _ hB6) m hm]
  refine c_Sc_flowOfSet_33 hB hB6 (and6_lt _ (enc_64 _ hB6) m hm) hf ⟨in_nI (by omega) (by decide), ?_⟩
  have e : smn (fun b => tb (enc (fun b => wo b == some r) B &&& m) b) f B = smn (fun b => (wo b == some r) && tb m b) f B :=
    smn_congr (fun b hb => by rw [and6_tb _ (enc_64 _ hB6) m hm b (by omega), enc_tb _ B b hb]) (fun _ _ => rfl)
  have h54 := smn_54 (p := fun b => (wo b == some r) && tb m b) hB6 hf9
  rw [cl_nI (by omega), hbs.1, e, nI_leI (by omega) (by omega)]
  unfold flR at hq
  dsimp only at hq
  refine ⟨fun c => ?_, fun c => ?_⟩
  · rw [decide_eq_false (by omega)] at hq; exact hq
  · rw [decide_eq_true (by omega)] at hq; exact hq
theorem c_Sc_floodedOf_33 {l : Launch} {h : Nat} {mi : TMi} {ml : TMl} {z : Nat} {m B R : Nat} {wo : Nat → Option Nat} {f bs : Nat → Nat} {Q : Int32 → TMi → TMl → Nat → Prop} (hB : mi 18 0 = nI B) (hB6 : B ≤ 6) (hR : mi 18 1 = nI R) (hR4 : R ≤ 4) (hw : isW (mi 34) B R wo) (hf : ∀ b, b < B → mi 34 (6 + b) = nI (f b)) (hf9 : okF B f) (hbs : ∀ r, r < R → mi 25 r = nI (bs r) ∧ bs r ≤ 99) (hm : m < 64) (hq : Q (nI (enc (flR B f bs wo (fun b => tb m b)) R)) mi ml z) : CI l (h + 4) m_Sc_floodedOf [.ref 33, .int (nI m)] mi ml z Q := by
  refine t_Sc_floodedOf_33 mi ml z _ ?_
  refine loop (P := fun i => Ev l (h + 4) m_Sc_floodedOf 4 ([.ref 33, .int (nI m), .int (nI (enc (flR B f bs wo (fun b => tb m b)) i)), .int (nI i)], [], st mi ml z) (qI Q)) R ?_ (fun i hi ih => ?_)
  · exact t_Sc_floodedOf_33_4 mi ml z _ _ _ ⟨fun _ => hq, fun c => absurd (le_at hR (by omega)) c⟩
  · refine t_Sc_floodedOf_33_4 mi ml z _ _ _ ⟨fun c => absurd c (ge_no hR (by omega) hi), fun _ => c_Sc_overflows_33 hB hB6 hR4 hw hf hf9 hi (hbs i hi) hm ⟨fun c => ?_, fun c => ?_⟩⟩
    · rw [bI_0] at c
      rw [nI_1, enc_skip (p := flR B f bs wo (fun b => tb m b)) c]
      exact ih
    · rw [bI_0, Bool.not_eq_false] at c
      rw [enc_step (p := flR B f bs wo (fun b => tb m b)) (by omega) c, nI_1]
      exact ih
theorem c_Sc_flooded_33 {l : Launch} {h : Nat} {mi : TMi} {ml : TMl} {z : Nat} {B R : Nat} {wo : Nat → Option Nat} {f bs : Nat → Nat} {Q : Int32 → TMi → TMl → Nat → Prop} (hB : mi 18 0 = nI B) (hB6 : B ≤ 6) (hR : mi 18 1 = nI R) (hR4 : R ≤ 4) (hw : isW (mi 34) B R wo) (hf : ∀ b, b < B → mi 34 (6 + b) = nI (f b)) (hf9 : okF B f) (hbs : ∀ r, r < R → mi 25 r = nI (bs r) ∧ bs r ≤ 99) (hq : Q (nI (enc (flR B f bs wo (fun _ => true)) R)) mi ml z) : CI l (h + 5) m_Sc_flooded [.ref 33] mi ml z Q := by
  refine t_Sc_flooded_33 mi ml z (c_allBecks hB hB6 (c_Sc_floodedOf_33 hB hB6 hR hR4 hw hf hf9 hbs (allB_lt B (by omega)) ?_))
  rw [enc_congr (q := flR B f bs wo (fun _ => true)) (fun r _ => flR_congr (fun b hb => by rw [allB_tb B (by omega) b hb]))]
  exact hq
theorem c_Sc_total_33 {l : Launch} {h : Nat} {mi : TMi} {ml : TMl} {z : Nat} {a n : Nat} {Q : Int32 → TMi → TMl → Nat → Prop} (ha : a + n ≤ 40) (hq : Q (sumI (mi 34) a n) mi ml z) : CI l (h + 1) m_Sc_total [.ref 33, .int (nI a), .int (nI n)] mi ml z Q := by
  refine t_Sc_total_33 mi ml z _ _ ?_
  refine loop (P := fun i => Ev l (h + 1) m_Sc_total 5 ([.ref 33, .int (nI a), .int (nI n), .int (sumI (mi 34) a i), .int (nI (a + i))], [], st mi ml z) (qI Q)) n ?_ (fun i hi ih => ?_)
  · exact t_Sc_total_33_5 mi ml z _ _ _ _ ⟨fun _ => hq, fun c => absurd (le_at (nI_add a n) (by omega)) c⟩
  · refine t_Sc_total_33_5 mi ml z _ _ _ _ ⟨fun c => absurd c (ge_no (nI_add a n) (by omega) (by omega)), fun _ => ⟨fun c => absurd c (ge_no (N := 40) rfl (by decide) (by omega)), fun _ => ⟨in_nI (by omega) (by decide), ?_⟩⟩⟩
    rw [cl_nI (by omega), nI_1]
    exact ih
theorem c_Sc_fewest_33 {l : Launch} {h : Nat} {mi : TMi} {ml : TMl} {z : Nat} {B R : Nat} {wo : Nat → Option Nat} {f bs : Nat → Nat} {Q : Int32 → TMi → TMl → Nat → Prop} (hB : mi 18 0 = nI B) (hB6 : B ≤ 6) (hR : mi 18 1 = nI R) (hR4 : R ≤ 4) (hw : isW (mi 34) B R wo) (hf : ∀ b, b < B → mi 34 (6 + b) = nI (f b)) (hf9 : okF B f) (hbs : ∀ r, r < R → mi 25 r = nI (bs r) ∧ bs r ≤ 99) (hq : Q (nI (fwst (fun o => enc (flR B f bs wo (fun b => !tb o b)) R == 0) (2 ^ B - 1) (2 ^ B - 1))) mi ml z) : CI l (h + 5) m_Sc_fewestToTurnOff [.ref 33] mi ml z Q := by
  refine t_Sc_fewestToTurnOff_33 mi ml z (c_allBecks hB hB6 ?_)
  have h64 := allB_lt B (by omega)
  have hpos : 0 < 2 ^ B := Nat.two_pow_pos B
  refine loop (P := fun i => Ev l (h + 5) m_Sc_fewestToTurnOff 12 ([.ref 33, .int (nI (2 ^ B - 1)), .int (nI (fwst (fun o => enc (flR B f bs wo (fun b => !tb o b)) R == 0) (2 ^ B - 1) i)), .int (nI i)], [], st mi ml z) (qI Q)) (2 ^ B - 1) ?_ (fun i hi ih => ?_)
  · exact t_Sc_fewestToTurnOff_33_12 mi ml z _ _ _ ⟨fun _ => hq, fun c => absurd (le_at rfl (by omega)) c⟩
  · have hfw := fwst_lt (ok := fun o => enc (flR B f bs wo (fun b => !tb o b)) R == 0) (s := 2 ^ B - 1) (n := i) (by omega)
    refine t_Sc_fewestToTurnOff_33_12 mi ml z _ _ _ ⟨fun c => absurd c (ge_no rfl (by omega) hi), fun _ => c_bitCount (by omega) (c_bitCount (by omega) ?_)⟩
    have p1 := pop6_le i
    have p2 := pop6_le (fwst (fun o => enc (flR B f bs wo (fun b => !tb o b)) R == 0) (2 ^ B - 1) i)
    rw [nI_leI (by omega) (by omega), nI_1]
    simp only [fwst] at ih
    refine ⟨fun c => ?_, fun c => ?_⟩
    · rw [decide_eq_false (by omega), Bool.false_and, if_neg (by decide)] at ih
      exact ih
    · rw [decide_eq_true (by omega), Bool.true_and] at ih
      rw [off6 B (by omega) i (by omega)]
      refine c_Sc_floodedOf_33 hB hB6 hR hR4 hw hf hf9 hbs (by omega) ?_
      have e : enc (flR B f bs wo (fun b => tb (2 ^ B - 1 - i) b)) R = enc (flR B f bs wo (fun b => !tb i b)) R := enc_congr (fun r _ => flR_congr (fun b hb => by rw [off6_tb B (by omega) i (by omega) b hb]))
      have h16 : enc (flR B f bs wo (fun b => !tb i b)) R < 2 ^ R := enc_lt _ R
      have := pow16 hR4
      rw [e]
      refine ⟨fun c => ?_, fun c => ?_⟩
      · rw [if_neg (by intro q; apply c; rw [beq_iff_eq.mp q]; rfl)] at ih
        exact ih
      · rw [if_pos (by rw [beq_iff_eq]; exact nI_inj (b := 0) (by omega) (by decide) c)] at ih
        exact ih
