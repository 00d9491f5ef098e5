/-! ===== contracts of the reference: leaves ===== -/
def bI (p : Bool) : Int32 := if p = true then 1 else 0
def oI (x : Option Nat) : Int32 := match x with
  | none => -1
  | some n => nI n
theorem bI_0 {p : Bool} : bI p = 0 ↔ p = false := by cases p <;> decide
theorem bI_1 {p : Bool} : bI p = 1 ↔ p = true := by cases p <;> decide
theorem oI_inj {x y : Option Nat} (hx : ∀ n, x = some n → n < 2 ^ 31) (hy : ∀ n, y = some n → n < 2 ^ 31) (h : oI x = oI y) : x = y := by
  cases x with
  | none => cases y with
    | none => rfl
    | some m => exact absurd h.symm (neg1_ne (hy m rfl))
  | some n => cases y with
    | none => exact absurd h (neg1_ne (hx n rfl))
    | some m => rw [nI_inj (hx n rfl) (hy m rfl) h]
theorem in_tb : ∀ m, m < 1024 → ∀ k, k < 10 → (lg_cmp (((nI m).toInt64 >>> ((nI k).toInt64 &&& 63)) &&& 1) 1 = 0) = (tb m k = true) := by
  have : ∀ m, m < 1024 → ∀ k, k < 10 → decide (lg_cmp (((nI m).toInt64 >>> ((nI k).toInt64 &&& 63)) &&& 1) 1 = 0) = tb m k := by decide +kernel
  intro m hm k hk
  have h := this m hm k hk
  cases ht : tb m k
  · rw [ht] at h; simp only [decide_eq_false_iff_not] at h; simp [h]
  · rw [ht] at h; simp only [decide_eq_true_eq] at h; simp [h]
theorem c_R_isIn {l : Launch} {h : Nat} {mi : TMi} {ml : TMl} {z : Nat} {m k : Nat} {Q : Int32 → TMi → TMl → Nat → Prop} (hm : m < 1024) (hk : k < 10) (hq : Q (bI (tb m k)) mi ml z) : CI l (h + 1) m_R_isIn [.long (nI m).toInt64, .int (nI k)] mi ml z Q := by
  refine t_R_isIn mi ml z _ _ ⟨fun c => ?_, fun c => ?_⟩
  · rw [in_tb m hm k hk] at c
    rw [show tb m k = false by simpa using c] at hq
    exact hq
  · rw [in_tb m hm k hk] at c
    rw [c] at hq
    exact hq
theorem lc_lt (x y : Int64) : (lg_cmp x y < 0) = (x < y) := by
  unfold lg_cmp
  by_cases h1 : x > y
  · rw [if_pos h1]
    have : ¬ x < y := fun h => by rw [gt_iff_lt, Int64.lt_iff_toInt_lt] at h1; rw [Int64.lt_iff_toInt_lt] at h; omega
    simp [this]
  · rw [if_neg h1]
    by_cases h2 : x = y
    · rw [if_pos h2]
      subst h2
      simp [Int64.lt_iff_toInt_lt]
    · rw [if_neg h2]
      have : x < y := by
        rw [gt_iff_lt, Int64.lt_iff_toInt_lt] at h1
        rw [Int64.lt_iff_toInt_lt]
        have : x.toInt ≠ y.toInt := fun e => h2 (Int64.toInt_inj.mp e)
        omega
      simp [this]
theorem lc_gt (x y : Int64) : (0 < lg_cmp x y) = (y < x) := by
  unfold lg_cmp
  by_cases h1 : x > y
  · rw [if_pos h1]
    have h1' : y < x := h1
    simp [h1']
  · rw [if_neg h1]
    have h1' : ¬ y < x := h1
    by_cases h2 : x = y
    · rw [if_pos h2]; simp [h1']
    · rw [if_neg h2]; simp [h1']
theorem c_R_within {l : Launch} {h : Nat} {mi : TMi} {ml : TMl} {z : Nat} {a b c : Int64} {Q : Int32 → TMi → TMl → Nat → Prop} (hq : Q (bI (decide (b.toInt ≤ a.toInt ∧ a.toInt ≤ c.toInt))) mi ml z) : CI l (h + 1) m_R_within [.long a, .long b, .long c] mi ml z Q := by
  refine t_R_within mi ml z _ _ _ ⟨fun c1 => ?_, fun c1 => ⟨fun c2 => ?_, fun c2 => ?_⟩⟩
  · rw [lc_lt, Int64.lt_iff_toInt_lt] at c1
    rw [show decide (b.toInt ≤ a.toInt ∧ a.toInt ≤ c.toInt) = false by simp; omega] at hq
    exact hq
  · rw [lc_gt, Int64.lt_iff_toInt_lt] at c2
    rw [show decide (b.toInt ≤ a.toInt ∧ a.toInt ≤ c.toInt) = false by simp; omega] at hq
    exact hq
  · rw [lc_lt, Int64.lt_iff_toInt_lt] at c1
    rw [lc_gt, Int64.lt_iff_toInt_lt] at c2
    rw [show decide (b.toInt ≤ a.toInt ∧ a.toInt ≤ c.toInt) = true by simp; omega] at hq
    exact hq
theorem c_R_isBeck {l : Launch} {h : Nat} {mi : TMi} {ml : TMl} {z : Nat} {a : Int64} {B : Nat} {Q : Int32 → TMi → TMl → Nat → Prop} (hB : mi 120 1 = nI B) (hB6 : B ≤ 6) (hq : Q (bI (decide (0 ≤ a.toInt ∧ a.toInt < B))) mi ml z) : CI l (h + 2) m_R_isBeck [.ref 119, .long a] mi ml z Q := by
  refine t_R_isBeck mi ml z _ (c_R_within ?_)
  have e : ((mi 120 1 - 1).toInt64).toInt = (B : Int) - 1 := by
    rw [hB]
    have : ∀ B, B < 7 → ((nI B - 1).toInt64).toInt = (B : Int) - 1 := by decide +kernel
    exact this B (by omega)
  have e0 : (0 : Int64).toInt = 0 := by decide
  rw [e, e0]
  rw [show decide (0 ≤ a.toInt ∧ a.toInt < (B : Int)) = decide (0 ≤ a.toInt ∧ a.toInt ≤ (B : Int) - 1) from decide_eq_decide.mpr ⟨fun h => by omega, fun h => by omega⟩] at hq
  refine ⟨?_, hq⟩
  cases (decide (0 ≤ a.toInt ∧ a.toInt ≤ (B : Int) - 1)) <;> rfl
theorem c_R_isRiver {l : Launch} {h : Nat} {mi : TMi} {ml : TMl} {z : Nat} {a : Int64} {R : Nat} {Q : Int32 → TMi → TMl → Nat → Prop} (hR : mi 120 2 = nI R) (hR4 : R ≤ 4) (hq : Q (bI (decide (0 ≤ a.toInt ∧ a.toInt < R))) mi ml z) : CI l (h + 2) m_R_isRiver [.ref 119, .long a] mi ml z Q := by
  refine t_R_isRiver mi ml z _ (c_R_within ?_)
  have e : ((mi 120 2 - 1).toInt64).toInt = (R : Int) - 1 := by
    rw [hR]
    have : ∀ B, B < 7 → ((nI B - 1).toInt64).toInt = (B : Int) - 1 := by decide +kernel
    exact this R (by omega)
  have e0 : (0 : Int64).toInt = 0 := by decide
  rw [e, e0]
  rw [show decide (0 ≤ a.toInt ∧ a.toInt < (R : Int)) = decide (0 ≤ a.toInt ∧ a.toInt ≤ (R : Int) - 1) from decide_eq_decide.mpr ⟨fun h => by omega, fun h => by omega⟩] at hq
  refine ⟨?_, hq⟩
  cases (decide (0 ≤ a.toInt ∧ a.toInt ≤ (R : Int) - 1)) <;> rfl
/-- bits of a set below 64 -/
def pop6 (m : Nat) : Nat := cnt (fun b => tb m b) 6
theorem c_R_bitsOf {l : Launch} {h : Nat} {mi : TMi} {ml : TMl} {z : Nat} {m : Nat} {Q : Int32 → TMi → TMl → Nat → Prop} (hm : m < 64) (hq : Q (nI (pop6 m)) mi ml z) : CI l (h + 1) m_R_bitsOf [.int (nI m)] mi ml z Q := by
  refine t_R_bitsOf mi ml z _ ?_
  have key : ∀ k i, i + k = 6 → Ev l (h + 1) m_R_bitsOf 4 ([.int (nI m), .int (nI (cnt (fun b => tb m b) i)), .int (nI i)], [], st mi ml z) (qI Q) := by
    intro k
    induction k with
    | zero =>
      intro i hi
      have : i = 6 := by omega
      subst this
      exact t_R_bitsOf_4 mi ml z _ _ _ ⟨fun _ => hq, fun c => absurd (by decide) c⟩
    | succ k ih =>
      intro i hi
      refine t_R_bitsOf_4 mi ml z _ _ _ ⟨fun c => ?_, fun _ => ?_⟩
      · exact absurd c (nI_ge (b := 6) (a := i) (by omega) (by decide))
      · rw [sr_bit m hm i (by omega), nI_add, nI_1]
        have e : cnt (fun b => tb m b) i + m / 2 ^ i % 2 = cnt (fun b => tb m b) (i + 1) := by
          have : m / 2 ^ i % 2 < 2 := Nat.mod_lt _ (by decide)
          rcases (show m / 2 ^ i % 2 = 0 ∨ m / 2 ^ i % 2 = 1 by omega) with h | h <;> simp [cnt, tb, h]
        rw [e]
        exact ih (i + 1) (by omega)
  exact key 6 0 rfl
theorem c_R_becksIn {l : Launch} {h : Nat} {mi : TMi} {ml : TMl} {z : Nat} {r : Int32} {B : Nat} {Q : Int32 → TMi → TMl → Nat → Prop} (hB : mi 120 1 = nI B) (hB6 : B ≤ 6) (hq : Q (nI (enc (fun b => mi 120 (29 + b) == r) B)) mi ml z) : CI l (h + 1) m_R_becksIn [.ref 119, .int r] mi ml z Q := by
  refine t_R_becksIn mi ml z _ ?_
  have key : ∀ k i, i + k = B → Ev l (h + 1) m_R_becksIn 4 ([.ref 119, .int r, .int (nI (enc (fun b => mi 120 (29 + b) == r) i)), .int (nI i)], [], st mi ml z) (qI Q) := by
    intro k
    induction k with
    | zero =>
      intro i hi
      have : i = B := by omega
      subst this
      exact t_R_becksIn_4 mi ml z _ _ _ ⟨fun _ => hq, fun c => absurd (by rw [hB]; exact nI_le (Nat.le_refl _) (by omega)) c⟩
    | succ k ih =>
      intro i hi
      refine t_R_becksIn_4 mi ml z _ _ _ ⟨fun c => ?_, fun _ => ⟨in_addL (a := 29) (i := i) (by omega) (by decide), fun c => ?_, fun c => ?_⟩⟩
      · rw [hB] at c
        exact absurd c (nI_ge (by omega) (by omega))
      · rw [addL_cl 29 i (by omega)] at c
        rw [or_zero, nI_1, enc_skip (by simpa using c)]
        exact ih (i + 1) (by omega)
      · rw [addL_cl 29 i (by omega)] at c
        rw [nI_1, enc_step (by omega) (by simpa using c)]
        exact ih (i + 1) (by omega)
  exact key B 0 (by omega)
theorem c_R_becksBy {l : Launch} {h : Nat} {mi : TMi} {ml : TMl} {z : Nat} {r : Int32} {B : Nat} {Q : Int32 → TMi → TMl → Nat → Prop} (hB : mi 120 1 = nI B) (hB6 : B ≤ 6) (hq : Q (nI (enc (fun b => mi 129 b == r) B)) mi ml z) : CI l (h + 1) m_R_becksBy [.ref 119, .int r] mi ml z Q := by
  refine t_R_becksBy mi ml z _ ?_
  have key : ∀ k i, i + k = B → Ev l (h + 1) m_R_becksBy 4 ([.ref 119, .int r, .int (nI (enc (fun b => mi 129 b == r) i)), .int (nI i)], [], st mi ml z) (qI Q) := by
    intro k
    induction k with
    | zero =>
      intro i hi
      have : i = B := by omega
      subst this
      exact t_R_becksBy_4 mi ml z _ _ _ ⟨fun _ => hq, fun c => absurd (by rw [hB]; exact nI_le (Nat.le_refl _) (by omega)) c⟩
    | succ k ih =>
      intro i hi
      refine t_R_becksBy_4 mi ml z _ _ _ ⟨fun c => ?_, fun _ => ⟨in_nI (k := i) (by omega) (by decide), fun c => ?_, fun c => ?_⟩⟩
      · rw [hB] at c
        exact absurd c (nI_ge (by omega) (by omega))
      · rw [cl_nI (by omega)] at c
        rw [or_zero, nI_1, enc_skip (by simpa using c)]
        exact ih (i + 1) (by omega)
      · rw [cl_nI (by omega)] at c
        rw [nI_1, enc_step (by omega) (by simpa using c)]
        exact ih (i + 1) (by omega)
  exact key B 0 (by omega)
theorem c_R_flowOf {l : Launch} {h : Nat} {mi : TMi} {ml : TMl} {z : Nat} {m B : Nat} {f : Nat → Nat} {Q : Int32 → TMi → TMl → Nat → Prop} (hB : mi 120 1 = nI B) (hB6 : B ≤ 6) (hm : m < 64) (hf : ∀ b, b < B → mi 120 (35 + b) = nI (f b)) (hq : Q (nI (smn (fun b => tb m b) f B)) mi ml z) : CI l (h + 2) m_R_flowOf [.ref 119, .int (nI m)] mi ml z Q := by
  refine t_R_flowOf mi ml z _ ?_
  have key : ∀ k i, i + k = B → Ev l (h + 2) m_R_flowOf 4 ([.ref 119, .int (nI m), .int (nI (smn (fun b => tb m b) f i)), .int (nI i)], [], st mi ml z) (qI Q) := by
    intro k
    induction k with
    | zero =>
      intro i hi
      have : i = B := by omega
      subst this
      exact t_R_flowOf_4 mi ml z _ _ _ ⟨fun _ => hq, fun c => absurd (by rw [hB]; exact nI_le (Nat.le_refl _) (by omega)) c⟩
    | succ k ih =>
      intro i hi
      refine t_R_flowOf_4 mi ml z _ _ _ ⟨fun c => ?_, fun _ => c_R_isIn (by omega) (by omega) ⟨fun c => ?_, fun c => ?_⟩⟩
      · rw [hB] at c
        exact absurd c (nI_ge (by omega) (by omega))
      · rw [bI_0] at c
        rw [nI_1, Int32.add_zero]
        have e : smn (fun b => tb m b) f i = smn (fun b => tb m b) f (i + 1) := by simp [smn, c]
        rw [e]
        exact ih (i + 1) (by omega)
      · rw [bI_0] at c
        refine ⟨in_addL (a := 35) (i := i) (by omega) (by decide), ?_⟩
        rw [addL_cl 35 i (by omega), hf i (by omega), nI_1, nI_add]
        have e : smn (fun b => tb m b) f i + f i = smn (fun b => tb m b) f (i + 1) := by simp [smn, show tb m i = true by simpa using c]
        rw [e]
        exact ih (i + 1) (by omega)
  exact key B 0 (by omega)
/-- the least of those below n, by f -/
def lst (p : Nat → Bool) (f : Nat → Int) : Nat → Option Nat
  | 0 => none
  | n + 1 => if p n = true then (match lst p f n with
    | none => some n
    | some m => if f n < f m then some n else some m) else lst p f n
theorem lst_lt {p : Nat → Bool} {f : Nat → Int} : ∀ {n m : Nat}, lst p f n = some m → m < n ∧ p m = true
  | 0, m, h => by simp [lst] at h
  | n + 1, m, h => by
    simp only [lst] at h
    split at h
    · rename_i hp
      split at h
      · cases h; exact ⟨Nat.lt_succ_self _, hp⟩
      · rename_i m' hm'
        have ih := lst_lt hm'
        split at h
        · cases h; exact ⟨Nat.lt_succ_self _, hp⟩
        · cases h; exact ⟨Nat.lt_succ_of_lt ih.1, ih.2⟩
    · have ih := lst_lt h
      exact ⟨Nat.lt_succ_of_lt ih.1, ih.2⟩
theorem lst_none {p : Nat → Bool} {f : Nat → Int} : ∀ {n : Nat}, lst p f n = none → ∀ b, b < n → p b = false
  | 0, _, b, hb => absurd hb (Nat.not_lt_zero _)
  | n + 1, h, b, hb => by
    simp only [lst] at h
    split at h
    · split at h
      · cases h
      · split at h <;> cases h
    · rename_i hp
      by_cases e : b = n
      · subst e; simpa using hp
      · exact lst_none h b (by omega)
theorem lst_min {p : Nat → Bool} {f : Nat → Int} : ∀ {n m : Nat}, lst p f n = some m → ∀ b, b < n → p b = true → f m ≤ f b
  | 0, m, h, b, hb, _ => absurd hb (Nat.not_lt_zero _)
  | n + 1, m, h, b, hb, hp => by
    simp only [lst] at h
    split at h
    · split at h
      · rename_i hn
        cases h
        by_cases e : b = n
        · subst e; exact Int.le_refl _
        · have := lst_none hn b (by omega)
          rw [this] at hp; cases hp
      · rename_i m' hm'
        have ih := fun hb => lst_min hm' b hb hp
        split at h
        · rename_i hlt
          cases h
          by_cases e : b = n
          · subst e; exact Int.le_refl _
          · have := ih (by omega)
            omega
        · rename_i hlt
          cases h
          by_cases e : b = n
          · subst e; omega
          · exact ih (by omega)
    · rename_i hpn
      by_cases e : b = n
      · subst e; exact absurd hp hpn
      · exact lst_min h b (by omega) hp
theorem lst_congr {p q : Nat → Bool} {f g : Nat → Int} : ∀ {n : Nat}, (∀ b, b < n → p b = q b) → (∀ b, b < n → f b = g b) → lst p f n = lst q g n
  | 0, _, _ => rfl
  | n + 1, h, k => by
    have ih := lst_congr (n := n) (fun b hb => h b (Nat.lt_succ_of_lt hb)) (fun b hb => k b (Nat.lt_succ_of_lt hb))
    simp only [lst, h n (Nat.lt_succ_self n), ih]
    split
    · cases e : lst q g n with
      | none => rfl
      | some m =>
        have hm := (lst_lt e).1
        simp only [k n (Nat.lt_succ_self n), k m (Nat.lt_succ_of_lt hm)]
    · rfl
/-- how much is liked, as whole numbers, where the arrays hold it -/
def Lk (mi : TMi) (a : Nat) (b r : Nat) : Int := (mi a (4 * b + r)).toInt
def pbO (L : Nat → Nat → Int) (b r : Nat) : Int := 4 * L b r - r
def prO (T : Nat → Nat → Int) (b r : Nat) : Int := 6 * T b r - b
def wdO (L T : Nat → Nat → Int) (b r : Nat) : Bool := decide (0 < L b r) && decide (0 < T b r)
/-- the laws' values are within their bounds -/
def bdA (mi : TMi) (a B R : Nat) : Prop := ∀ b r, b < B → r < R → -1000000 ≤ Lk mi a b r ∧ Lk mi a b r ≤ 1000000
theorem ix_cl {b r : Nat} (hb : b < 6) (hr : r < 4) : ((4 : Int32) * nI b + nI r).toNatClampNeg = 4 * b + r := by
  rw [mulL 4 b, nI_add, nI_clamp (by omega)]
theorem ix_in {b r : Nat} (hb : b < 6) (hr : r < 4) : vp_in ((4 : Int32) * nI b + nI r) 24 := by
  rw [mulL 4 b, nI_add]
  exact vp_in_nI (by omega) (by decide)
theorem sub_toInt {x y : Int32} (hx : -1000000 ≤ x.toInt ∧ x.toInt ≤ 1000000) (hy : -1000000 ≤ y.toInt ∧ y.toInt ≤ 1000000) : (x - y).toInt = x.toInt - y.toInt := by
  rw [Int32.toInt_sub]
  apply Int.bmod_eq_of_le <;> omega
theorem sub_pos' {x y : Int32} (hx : -1000000 ≤ x.toInt ∧ x.toInt ≤ 1000000) (hy : -1000000 ≤ y.toInt ∧ y.toInt ≤ 1000000) : 0 < x - y ↔ y.toInt < x.toInt := by
  rw [Int32.lt_iff_toInt_lt, sub_toInt hx hy, Int32.toInt_zero]
  omega
theorem sub_zero' {x y : Int32} (hx : -1000000 ≤ x.toInt ∧ x.toInt ≤ 1000000) (hy : -1000000 ≤ y.toInt ∧ y.toInt ≤ 1000000) : x - y = 0 ↔ x.toInt = y.toInt := by
  rw [← Int32.toInt_inj, sub_toInt hx hy, Int32.toInt_zero]
  omega
theorem c_R_takesMore {l : Launch} {h : Nat} {mi : TMi} {ml : TMl} {z : Nat} {r b o B R : Nat} {Q : Int32 → TMi → TMl → Nat → Prop} (hB6 : B ≤ 6) (hR4 : R ≤ 4) (hd : bdA mi 127 B R) (hb : b < B) (ho : o < B) (hr : r < R) (hq : Q (bI (decide (prO (Lk mi 127) o r < prO (Lk mi 127) b r))) mi ml z) : CI l (h + 1) m_R_takesMore [.ref 119, .int (nI r), .int (nI b), .int (nI o)] mi ml z Q := by
  have hx := hd b r hb hr
  have hy := hd o r ho hr
  replace hb : b < 6 := by omega
  replace ho : o < 6 := by omega
  replace hr : r < 4 := by omega
  refine t_R_takesMore mi ml z _ _ _ ⟨ix_in hb hr, ix_in ho hr, ?_⟩
  rw [ix_cl hb hr, ix_cl ho hr]
  unfold Lk at hx hy
  rw [sub_pos' hx hy, sub_zero' hx hy]
  unfold prO Lk at hq
  refine ⟨fun c => ?_, fun c => ⟨fun c2 => ?_, fun c2 => ⟨fun c3 => ?_, fun c3 => ?_⟩⟩⟩
  · rw [show decide _ = true from decide_eq_true (by omega)] at hq
    exact hq
  · rw [show decide _ = false from decide_eq_false (by omega)] at hq
    exact hq
  · rw [nI_leI (by omega) (by omega)] at c3
    rw [show decide _ = false from decide_eq_false (by omega)] at hq
    exact hq
  · rw [nI_leI (by omega) (by omega)] at c3
    rw [show decide _ = true from decide_eq_true (by omega)] at hq
    exact hq
theorem c_R_likesMore {l : Launch} {h : Nat} {mi : TMi} {ml : TMl} {z : Nat} {b r o B R : Nat} {Q : Int32 → TMi → TMl → Nat → Prop} (hB6 : B ≤ 6) (hR4 : R ≤ 4) (hd : bdA mi 126 B R) (hb : b < B) (ho : o < R) (hr : r < R) (hq : Q (bI (decide (pbO (Lk mi 126) b o < pbO (Lk mi 126) b r))) mi ml z) : CI l (h + 1) m_R_likesMore [.ref 119, .int (nI b), .int (nI r), .int (nI o)] mi ml z Q := by
  have hx := hd b r hb hr
  have hy := hd b o hb ho
  replace hb : b < 6 := by omega
  replace ho : o < 4 := by omega
  replace hr : r < 4 := by omega
  refine t_R_likesMore mi ml z _ _ _ ⟨ix_in hb hr, ix_in hb ho, ?_⟩
  rw [ix_cl hb hr, ix_cl hb ho]
  unfold Lk at hx hy
  rw [sub_pos' hx hy, sub_zero' hx hy]
  unfold pbO Lk at hq
  refine ⟨fun c => ?_, fun c => ⟨fun c2 => ?_, fun c2 => ⟨fun c3 => ?_, fun c3 => ?_⟩⟩⟩
  · rw [show decide _ = true from decide_eq_true (by omega)] at hq
    exact hq
  · rw [show decide _ = false from decide_eq_false (by omega)] at hq
    exact hq
  · rw [nI_leI (by omega) (by omega)] at c3
    rw [show decide _ = false from decide_eq_false (by omega)] at hq
    exact hq
  · rw [nI_leI (by omega) (by omega)] at c3
    rw [show decide _ = true from decide_eq_true (by omega)] at hq
    exact hq
theorem c_R_wouldBoth {l : Launch} {h : Nat} {mi : TMi} {ml : TMl} {z : Nat} {b r : Nat} {Q : Int32 → TMi → TMl → Nat → Prop} (hb : b < 6) (hr : r < 4) (hq : Q (bI (wdO (Lk mi 126) (Lk mi 127) b r)) mi ml z) : CI l (h + 1) m_R_wouldBoth [.ref 119, .int (nI b), .int (nI r)] mi ml z Q := by
  refine t_R_wouldBoth mi ml z _ _ ⟨ix_in hb hr, ?_⟩
  rw [ix_cl hb hr]
  unfold wdO Lk at hq
  have e : ∀ x : Int32, x ≤ 0 ↔ ¬ 0 < x.toInt := fun x => by rw [Int32.le_iff_toInt_le, Int32.toInt_zero]; omega
  simp only [e]
  refine ⟨fun c => ?_, fun c => ⟨ix_in hb hr, fun c2 => ?_, fun c2 => ?_⟩⟩
  · simp only [c, decide_false, Bool.false_and] at hq
    exact hq
  · simp only [c2, decide_false, Bool.and_false] at hq
    exact hq
  · rw [Decidable.not_not] at c c2
    simp only [c, c2, decide_true, Bool.and_true] at hq
    exact hq
theorem c_R_leastOf {l : Launch} {h : Nat} {mi : TMi} {ml : TMl} {z : Nat} {r m B R : Nat} {Q : Int32 → TMi → TMl → Nat → Prop} (hB : mi 120 1 = nI B) (hB6 : B ≤ 6) (hR4 : R ≤ 4) (hd : bdA mi 127 B R) (hr : r < R) (hm : m < 64) (hq : Q (oI (lst (fun b => tb m b) (fun b => prO (Lk mi 127) b r) B)) mi ml z) : CI l (h + 2) m_R_leastOf [.ref 119, .int (nI r), .int (nI m)] mi ml z Q := by
  refine t_R_leastOf mi ml z _ _ ?_
  have key : ∀ k i, i + k = B → Ev l (h + 2) m_R_leastOf 5 ([.ref 119, .int (nI r), .int (nI m), .int (oI (lst (fun b => tb m b) (fun b => prO (Lk mi 127) b r) i)), .int (nI i)], [], st mi ml z) (qI Q) := by
    intro k
    induction k with
    | zero =>
      intro i hi
      have : i = B := by omega
      subst this
      exact t_R_leastOf_5 mi ml z _ _ _ _ ⟨fun _ => hq, fun c => absurd (by rw [hB]; exact nI_le (Nat.le_refl _) (by omega)) c⟩
    | succ k ih =>
      intro i hi
      have ih := ih (i + 1) (by omega)
      refine t_R_leastOf_5 mi ml z _ _ _ _ ⟨fun c => ?_, fun _ => c_R_isIn (by omega) (by omega) ⟨fun c => ?_, fun c => ⟨fun c2 => ?_, fun c2 => ?_⟩⟩⟩
      · rw [hB] at c
        exact absurd c (nI_ge (by omega) (by omega))
      · rw [bI_0] at c
        rw [nI_1]
        simp only [lst, c] at ih
        exact ih
      · rw [bI_0] at c
        have c' : tb m i = true := by simpa using c
        rw [nI_1]
        simp only [lst, c', if_true] at ih
        cases e : lst (fun b => tb m b) (fun b => prO (Lk mi 127) b r) i with
        | none => rw [e] at ih; exact ih
        | some q =>
          rw [e] at c2
          exact absurd c2 (neg1_ne (by have := (lst_lt e).1; omega))
      · rw [bI_0] at c
        have c' : tb m i = true := by simpa using c
        simp only [lst, c', if_true] at ih
        cases e : lst (fun b => tb m b) (fun b => prO (Lk mi 127) b r) i with
        | none => rw [e] at c2; exact absurd rfl c2
        | some q =>
          have hq6 := (lst_lt e).1
          rw [e] at ih
          refine c_R_takesMore hB6 hR4 hd (show q < B by omega) (show i < B by omega) hr ⟨fun c3 => ?_, fun c3 => ?_⟩
          · rw [bI_0, decide_eq_false_iff_not] at c3
            simp only [c3, if_false] at ih
            rw [nI_1]
            exact ih
          · rw [bI_0, decide_eq_false_iff_not, Decidable.not_not] at c3
            simp only [c3, if_true] at ih
            rw [nI_1]
            exact ih
  exact key B 0 (by omega)
