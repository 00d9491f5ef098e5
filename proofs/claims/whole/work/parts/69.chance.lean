/-! ===== chances: sums over those that run, lowest terms ===== -/
def pw (f : Nat → Nat) : Nat → Nat
  | 0 => 1
  | n + 1 => pw f n * f n
theorem pw_congr {f g : Nat → Nat} : ∀ {n : Nat}, (∀ b, b < n → f b = g b) → pw f n = pw g n
  | 0, _ => rfl
  | n + 1, h => by simp only [pw, pw_congr (n := n) (fun b hb => h b (by omega)), h n (by omega)]
theorem pw_le {f : Nat → Nat} : ∀ {n : Nat}, (∀ b, b < n → f b ≤ 10) → pw f n ≤ 10 ^ n
  | 0, _ => Nat.le_refl _
  | n + 1, h => by
    simp only [pw, Nat.pow_succ]
    exact Nat.mul_le_mul (pw_le (fun b hb => h b (by omega))) (h n (by omega))
def wtS (a : Ln) (s : Nat) : Nat := pw (fun b => if tb s b = true then 10 - nD a b else nD a b) (nB a)
theorem wtS_le {a : Ln} (ha : okLn a) (s : Nat) : wtS a s ≤ 1000000 := by
  have h1 : wtS a s ≤ 10 ^ nB a := pw_le (fun b hb => by
    have := (ha.2.2.1 b hb).2
    by_cases q : tb s b = true
    · rw [if_pos q]; omega
    · rw [if_neg q]; exact this)
  have h2 : 10 ^ nB a ≤ 10 ^ 6 := Nat.pow_le_pow_right (by decide) ha.1
  exact Nat.le_trans h1 h2
theorem smr_rev {f : Nat → Nat} : ∀ {n : Nat}, smr f n = smr (fun i => f (n - 1 - i)) n
  | 0 => rfl
  | n + 1 => by
    have h1 : ∀ {g : Nat → Nat} {k : Nat}, smr g (k + 1) = g 0 + smr (fun i => g (i + 1)) k := by
      intro g k
      induction k with
      | zero => simp [smr]
      | succ k ih => simp only [smr] at ih ⊢; rw [ih]; omega
    rw [h1 (g := fun i => f (n + 1 - 1 - i)) (k := n)]
    simp only [smr]
    rw [smr_rev (f := f) (n := n), Nat.add_comm]
    congr 1
    exact smr_congr (fun i hi => by congr 1; omega)
theorem smr_bd {f : Nat → Nat} {c : Nat} (h : ∀ i, f i ≤ c) : ∀ {n : Nat}, smr f n ≤ n * c
  | 0 => by simp [smr]
  | n + 1 => by
    have := smr_bd h (n := n)
    have := h n
    simp only [smr, Nat.add_mul, Nat.one_mul]
    omega
theorem c_Su_weightOf {l : Launch} {h : Nat} {mi : TMi} {ml : TMl} {z : Nat} {a : Ln} {s : Nat} {Q : Int32 → TMi → TMl → Nat → Prop} (ha : okLn a) (hl : LnC mi 18 a) (hs : s < 64) (hq : Q (nI (wtS a s)) mi ml z) : CI l (h + 1) m_Su_weightOf [.ref 18, .int (nI s)] mi ml z Q := by
  have hB6 := ha.1
  refine t_Su_weightOf mi ml z _ ?_
  refine loop (P := fun i => Ev l (h + 1) m_Su_weightOf 4 ([.ref 18, .int (nI s), .int (nI (pw (fun b => if tb s b = true then 10 - nD a b else nD a b) i)), .int (nI i)], [], st mi ml z) (qI Q)) (nB a) ?_ (fun i hi ih => ?_)
  · exact t_Su_weightOf_4 mi ml z _ _ _ ⟨fun _ => hq, fun c => absurd (le_at hl.1 (by omega)) c⟩
  · have hin : vp_in (nI i) 6 := in_nI (by omega) (by decide)
    have h10 := (ha.2.2.1 i hi).2
    refine t_Su_weightOf_4 mi ml z _ _ _ ⟨fun c => absurd c (ge_no hl.1 (by omega) hi), fun _ => ?_⟩
    rw [sr_tb hs (by omega), cl_nI (by omega), show mi 21 i = nI (nD a i) from hl.2.2.2.2.1 i hi, nI_1]
    simp only [pw] at ih
    refine ⟨fun c => ⟨hin, ?_⟩, fun c => ⟨hin, ?_⟩⟩
    · rw [if_neg (by rw [c]; decide)] at ih
      rw [show nI (pw (fun b => if tb s b = true then 10 - nD a b else nD a b) i) * nI (nD a i) = nI (pw (fun b => if tb s b = true then 10 - nD a b else nD a b) i * nD a i) from pk_mul _ _]
      exact ih
    · rw [if_pos (by simpa using c)] at ih
      have e10 : (10 : Int32) - nI (nD a i) = nI (10 - nD a i) := by
        apply Int32.toInt_inj.mp
        rw [Int32.toInt_sub, nI_toInt (by omega), nI_toInt (by omega), show (10 : Int32).toInt = 10 by decide]
        rw [show (10 : Int) - ((nD a i : Nat) : Int) = ((10 - nD a i : Nat) : Int) by omega]
        exact Int.bmod_eq_of_le (by omega) (by omega)
      rw [e10, show nI (pw (fun b => if tb s b = true then 10 - nD a b else nD a b) i) * nI (10 - nD a i) = nI (pw (fun b => if tb s b = true then 10 - nD a b else nD a b) i * (10 - nD a i)) from pk_mul _ _]
      exact ih
theorem c_Su_wholeOf {l : Launch} {h : Nat} {mi : TMi} {ml : TMl} {z : Nat} {a : Ln} {Q : Int32 → TMi → TMl → Nat → Prop} (ha : okLn a) (hl : LnC mi 18 a) (hq : Q (nI (10 ^ nB a)) mi ml z) : CI l (h + 1) m_Su_wholeOf [.ref 18] mi ml z Q := by
  have hB6 := ha.1
  refine t_Su_wholeOf mi ml z ?_
  refine loop (P := fun i => Ev l (h + 1) m_Su_wholeOf 4 ([.ref 18, .int (nI (10 ^ i)), .int (nI i)], [], st mi ml z) (qI Q)) (nB a) ?_ (fun i hi ih => ?_)
  · exact t_Su_wholeOf_4 mi ml z _ _ ⟨fun _ => hq, fun c => absurd (le_at hl.1 (by omega)) c⟩
  · refine t_Su_wholeOf_4 mi ml z _ _ ⟨fun c => absurd c (ge_no hl.1 (by omega) hi), fun _ => ?_⟩
    rw [show nI (10 ^ i) * 10 = nI (10 ^ (i + 1)) from by rw [Nat.pow_succ]; exact pk_mul _ _, nI_1]
    exact ih
theorem c_R_wholeOf {l : Launch} {h : Nat} {mi : TMi} {ml : TMl} {z : Nat} {a : Ln} {Q : Int32 → TMi → TMl → Nat → Prop} (ha : okLn a) (hl : LnR (mi 120) a) (hq : Q (nI (10 ^ nB a)) mi ml z) : CI l (h + 1) m_R_wholeOf [.ref 119] mi ml z Q := by
  have hB6 := ha.1
  refine t_R_wholeOf mi ml z ?_
  refine loop (P := fun i => Ev l (h + 1) m_R_wholeOf 4 ([.ref 119, .int (nI (10 ^ i)), .int (nI i)], [], st mi ml z) (qI Q)) (nB a) ?_ (fun i hi ih => ?_)
  · exact t_R_wholeOf_4 mi ml z _ _ ⟨fun _ => hq, fun c => absurd (le_at hl.1 (by omega)) c⟩
  · refine t_R_wholeOf_4 mi ml z _ _ ⟨fun c => absurd c (ge_no hl.1 (by omega) hi), fun _ => ?_⟩
    rw [show nI (10 ^ i) * 10 = nI (10 ^ (i + 1)) from by rw [Nat.pow_succ]; exact pk_mul _ _, nI_1]
    exact ih
theorem tb_cp : ∀ B, B < 7 → ∀ t, t < 2 ^ B → ∀ b, b < B → tb (2 ^ B - 1 - t) b = !tb t b := by decide +kernel
theorem c_R_likelyDry {l : Launch} {h : Nat} {mi : TMi} {ml : TMl} {z : Nat} {a : Ln} {t : Nat} {Q : Int32 → TMi → TMl → Nat → Prop} (ha : okLn a) (hl : LnR (mi 120) a) (ht : t < 2 ^ nB a) (hq : Q (nI (wtS a (2 ^ nB a - 1 - t))) mi ml z) : CI l (h + 2) m_R_likelyDry [.ref 119, .int (nI t)] mi ml z Q := by
  have hB6 := ha.1
  have h64 : 2 ^ nB a ≤ 64 := Nat.pow_le_pow_right (show 2 > 0 by decide) hB6
  refine t_R_likelyDry mi ml z _ ?_
  have ew : wtS a (2 ^ nB a - 1 - t) = pw (fun b => if tb t b = true then nD a b else 10 - nD a b) (nB a) := pw_congr (fun b hb => by
    rw [tb_cp (nB a) (by omega) t ht b hb]
    cases tb t b <;> rfl)
  rw [ew] at hq
  refine loop (P := fun i => Ev l (h + 2) m_R_likelyDry 4 ([.ref 119, .int (nI t), .int (nI (pw (fun b => if tb t b = true then nD a b else 10 - nD a b) i)), .int (nI i)], [], st mi ml z) (qI Q)) (nB a) ?_ (fun i hi ih => ?_)
  · exact t_R_likelyDry_4 mi ml z _ _ _ ⟨fun _ => hq, fun c => absurd (le_at hl.1 (by omega)) c⟩
  · have h10 := (ha.2.2.1 i hi).2
    have hin : vp_in ((15 : Int32) + nI i) 4113 := in_addL (a := 15) (by omega) (by decide)
    refine t_R_likelyDry_4 mi ml z _ _ _ ⟨fun c => absurd c (ge_no hl.1 (by omega) hi), fun _ => c_R_isIn (by omega) (by omega) ?_⟩
    rw [addL_cl 15 i (by omega), hl.2.2.2.2.1 i hi, bI_0, nI_1]
    simp only [pw] at ih
    refine ⟨fun c => ⟨hin, ?_⟩, fun c => ⟨hin, ?_⟩⟩
    · rw [if_neg (by rw [c]; decide)] at ih
      have e10 : (10 : Int32) - nI (nD a i) = nI (10 - nD a i) := by
        apply Int32.toInt_inj.mp
        rw [Int32.toInt_sub, nI_toInt (by omega), nI_toInt (by omega), show (10 : Int32).toInt = 10 by decide]
        rw [show (10 : Int) - ((nD a i : Nat) : Int) = ((10 - nD a i : Nat) : Int) by omega]
        exact Int.bmod_eq_of_le (by omega) (by omega)
      rw [e10, show nI (pw (fun b => if tb t b = true then nD a b else 10 - nD a b) i) * nI (10 - nD a i) = nI (pw (fun b => if tb t b = true then nD a b else 10 - nD a b) i * (10 - nD a i)) from pk_mul _ _]
      exact ih
    · rw [if_pos (by simpa using c)] at ih
      rw [show nI (pw (fun b => if tb t b = true then nD a b else 10 - nD a b) i) * nI (nD a i) = nI (pw (fun b => if tb t b = true then nD a b else 10 - nD a b) i * nD a i) from pk_mul _ _]
      exact ih
/-- Euclid's steps: by two of them the rest is less than half -/
theorem euc {d r : Nat} (hr : 0 < r) (h : 0 < d % r) : 2 * (r % (d % r)) < r := by
  have h1 : d % r < r := Nat.mod_lt _ hr
  have h2 : r % (d % r) < d % r := Nat.mod_lt _ h
  have h3 : d % r + r % (d % r) ≤ r := by
    have := Nat.div_add_mod r (d % r)
    have h4 : 1 ≤ r / (d % r) := Nat.div_pos (by omega) h
    have h5 : d % r * 1 ≤ d % r * (r / (d % r)) := Nat.mul_le_mul_left _ h4
    omega
  omega
theorem c_R_common {l : Launch} {ml : TMl} {z : Nat} {mi : TMi} : ∀ (k : Nat) {h x y : Nat} {Q : Int32 → TMi → TMl → Nat → Prop}, x < 2 ^ 31 → y < 2 ^ k → k ≤ 31 → Q (nI (Nat.gcd x y)) mi ml z → CI l (h + 2 * k + 1) m_R_common [.int (nI x), .int (nI y)] mi ml z Q := by
  intro k
  induction k with
  | zero =>
    intro h x y Q hx hy hk hq
    have : y = 0 := by rw [Nat.pow_zero] at hy; omega
    subst this
    rw [Nat.gcd_zero_right] at hq
    exact t_R_common mi ml z _ _ ⟨fun c => absurd rfl c, fun _ => hq⟩
  | succ k ih =>
    intro h x y Q hx hy hk hq
    have h31 : 2 ^ (k + 1) ≤ 2 ^ 31 := Nat.pow_le_pow_right (by decide) hk
    have hy31 : y < 2 ^ 31 := by omega
    by_cases q0 : y = 0
    · subst q0
      rw [Nat.gcd_zero_right] at hq
      exact t_R_common mi ml z _ _ ⟨fun c => absurd rfl c, fun _ => hq⟩
    · have hne : ¬ nI y = 0 := fun c => q0 (nI_inj hy31 (by decide) c)
      refine t_R_common mi ml z _ _ ⟨fun _ => ⟨hne, ?_⟩, fun c => absurd c hne⟩
      rw [remN hx (by omega) hy31]
      have e1 : Nat.gcd x y = Nat.gcd y (x % y) := by rw [Nat.gcd_comm x y, Nat.gcd_rec y x, Nat.gcd_comm]
      by_cases q1 : x % y = 0
      · rw [q1]
        rw [e1, q1, Nat.gcd_zero_right] at hq
        exact t_R_common mi ml z _ _ ⟨fun c => absurd rfl c, fun _ => hq⟩
      · have hm : x % y < y := Nat.mod_lt _ (by omega)
        have hne2 : ¬ nI (x % y) = 0 := fun c => q1 (nI_inj (by omega) (by decide) c)
        rw [show h + 2 * (k + 1) = (h + 2 * k + 1) + 1 by omega]
        refine t_R_common mi ml z _ _ ⟨fun _ => ⟨hne2, ?_⟩, fun c => absurd c hne2⟩
        rw [remN hy31 (by omega) (by omega)]
        have e2 : Nat.gcd y (x % y) = Nat.gcd (x % y) (y % (x % y)) := by rw [Nat.gcd_comm y (x % y), Nat.gcd_rec (x % y) y, Nat.gcd_comm]
        rw [e1, e2] at hq
        refine ih (h := h) (by omega) ?_ (by omega) hq
        have := euc (d := x) (r := y) (by omega) (by omega)
        rw [Nat.pow_succ] at hy
        omega
theorem c_Su_tell {l : Launch} {h : Nat} {mi : TMi} {ml : TMl} {z : Nat} {p w : Nat} {Q : TMi → TMl → Nat → Prop} (hp : p < 2 ^ 31) (hw : w < 2 ^ 31) (hw0 : 0 < w) (hq : Q (up (up mi 75 5 (nI (p / Nat.gcd w p))) 75 6 (nI (w / Nat.gcd w p))) ml z) : CV l (h + 1) m_Su_tellInLowestTerms [.ref 75, .int (nI p), .int (nI w)] mi ml z Q := by
  refine t_Su_tellInLowestTerms mi ml z _ _ ?_
  have fin : ∀ g, 0 < g → g < 2 ^ 31 → g = Nat.gcd w p → ∀ v, Ev l (h + 1) m_Su_tellInLowestTerms 8 ([.ref 75, .int (nI p), .int (nI w), .int (nI g), .int 0, .int v, .retAddr 0], [], st mi ml z) (qV Q) := fun g hg hg2 eg v => by
    have hne : ¬ nI g = 0 := fun c => by have := nI_inj (b := 0) hg2 (by decide) c; omega
    rw [← eg] at hq
    have fin' : (¬ nI g = 0 → (¬ nI g = 0) ∧ ((¬ nI g = 0 → (¬ nI g = 0) ∧ Q (up (up mi 75 5 (nI p / nI g)) 75 6 (nI w / nI g)) ml z) ∧ (nI g = 0 → Q (up (up mi 75 5 (nI p / nI g)) 75 6 (nI w)) ml z))) ∧ (nI g = 0 → ((¬ nI g = 0 → (¬ nI g = 0) ∧ Q (up (up mi 75 5 (nI p)) 75 6 (nI w / nI g)) ml z) ∧ (nI g = 0 → Q (up (up mi 75 5 (nI p)) 75 6 (nI w)) ml z))) := by
      rw [divN hp hg hg2, divN hw hg hg2]
      exact ⟨fun _ => ⟨hne, fun _ => ⟨hne, hq⟩, fun c => absurd c hne⟩, fun c => absurd c hne⟩
    exact t_Su_tellInLowestTerms_8 mi ml z _ _ _ _ _ ⟨fun _ => fin', fun _ => ⟨fun _ => fin', fun c => absurd rfl c⟩⟩
  have key : ∀ k d r i, r < 2 ^ k → d < 2 ^ 31 → 0 < d → Nat.gcd d r = Nat.gcd w p → i + 2 * k ≤ 62 → r < 2 ^ 31 → Ev l (h + 1) m_Su_tellInLowestTerms 8 ([.ref 75, .int (nI p), .int (nI w), .int (nI d), .int (nI r), .int (nI i), .retAddr 0], [], st mi ml z) (qV Q) := by
    intro k
    induction k with
    | zero =>
      intro d r i hr hd hd0 eg hi _
      have : r = 0 := by rw [Nat.pow_zero] at hr; omega
      subst this
      rw [Nat.gcd_zero_right] at eg
      exact fin d hd0 hd eg _
    | succ k ih =>
      intro d r i hr hd hd0 eg hi hr31
      by_cases q0 : r = 0
      · subst q0
        rw [Nat.gcd_zero_right] at eg
        exact fin d hd0 hd eg _
      · have hne : ¬ nI r = 0 := fun c => q0 (nI_inj hr31 (by decide) c)
        refine t_Su_tellInLowestTerms_8 mi ml z _ _ _ _ _ ⟨fun c => absurd ((nI_leI (a := 64) (b := i) (by decide) (by omega)).mp c) (by omega), fun _ => ⟨fun c => absurd c hne, fun _ => ⟨hne, ?_⟩⟩⟩
        rw [remN hd (by omega) hr31, nI_1]
        have e1 : Nat.gcd d r = Nat.gcd r (d % r) := by rw [Nat.gcd_comm d r, Nat.gcd_rec r d, Nat.gcd_comm]
        have hm : d % r < r := Nat.mod_lt _ (by omega)
        by_cases q1 : d % r = 0
        · rw [q1]
          rw [e1, q1, Nat.gcd_zero_right] at eg
          exact fin r (by omega) hr31 eg _
        · have hne2 : ¬ nI (d % r) = 0 := fun c => q1 (nI_inj (by omega) (by decide) c)
          refine t_Su_tellInLowestTerms_8 mi ml z _ _ _ _ _ ⟨fun c => absurd ((nI_leI (a := 64) (b := i + 1) (by decide) (by omega)).mp c) (by omega), fun _ => ⟨fun c => absurd c hne2, fun _ => ⟨hne2, ?_⟩⟩⟩
          rw [remN hr31 (by omega) (by omega), nI_1]
          have e2 : Nat.gcd r (d % r) = Nat.gcd (d % r) (r % (d % r)) := by rw [Nat.gcd_comm r (d % r), Nat.gcd_rec (d % r) r, Nat.gcd_comm]
          have hu := euc (d := d) (r := r) (by omega) (by omega)
          refine ih (d % r) (r % (d % r)) (i + 2) ?_ (by omega) (by omega) (by rw [← e2, ← e1]; exact eg) (by omega) (by omega)
          rw [Nat.pow_succ] at hr
          omega
  exact key 31 w p 0 hp hw hw0 rfl (by decide) hp
def fracV (a : Ln) (p : Nat) (what : Int32) : Int32 := if what = 0 then nI (p / Nat.gcd p (10 ^ nB a)) else nI (10 ^ nB a / Nat.gcd p (10 ^ nB a))
theorem c_R_part {l : Launch} {h : Nat} {mi : TMi} {ml : TMl} {z : Nat} {a : Ln} {p : Nat} {what : Int32} {Q : Int32 → TMi → TMl → Nat → Prop} (ha : okLn a) (hl : LnR (mi 120) a) (hp : p < 2 ^ 31) (hq : Q (fracV a p what) mi ml z) : CI l (h + 42) m_R_part [.ref 119, .int (nI p), .int what] mi ml z Q := by
  have hw6 : 10 ^ nB a ≤ 10 ^ 6 := Nat.pow_le_pow_right (by decide) ha.1
  have h6 : (10 : Nat) ^ 6 = 1000000 := by decide
  have hw0 : 0 < 10 ^ nB a := Nat.pow_pos (by decide)
  have h20 : (2 : Nat) ^ 20 = 1048576 := by decide
  refine t_R_part mi ml z _ _ (c_R_wholeOf ha hl ?_)
  rw [show h + 41 = h + 2 * 20 + 1 by omega]
  refine c_R_common 20 hp (by omega) (by decide) ?_
  have hg0 : 0 < Nat.gcd p (10 ^ nB a) := Nat.gcd_pos_of_pos_right _ hw0
  have hg1 : Nat.gcd p (10 ^ nB a) ≤ 10 ^ nB a := Nat.gcd_le_right _ hw0
  have hne : ¬ nI (Nat.gcd p (10 ^ nB a)) = 0 := fun c => by have := nI_inj (b := 0) (show Nat.gcd p (10 ^ nB a) < 2 ^ 31 by omega) (by decide) c; omega
  unfold fracV at hq
  refine ⟨fun c => c_R_wholeOf ha hl ⟨hne, ?_⟩, fun c => ⟨hne, ?_⟩⟩
  · rw [if_neg c] at hq
    rw [divN (by omega) hg0 (by omega)]
    exact hq
  · rw [if_pos c] at hq
    rw [divN hp hg0 (by omega)]
    exact hq
