/-! ===== runs of bytes; a number token of the class ===== -/
def run (p : Nat → Bool) (tp : Nat → Nat) (n : Nat) : Nat → Nat → Nat
  | 0, k => k
  | f + 1, k => if k < n ∧ p (tp k) = true then run p tp n f (k + 1) else k
def ru (p : Nat → Bool) (tp : Nat → Nat) (n k : Nat) : Nat := run p tp n (n - k) k
theorem ru_on {p : Nat → Bool} {tp : Nat → Nat} {n k : Nat} (h : k < n) (hp : p (tp k) = true) : ru p tp n k = ru p tp n (k + 1) := by
  unfold ru
  obtain ⟨f, hf⟩ : ∃ f, n - k = f + 1 := ⟨n - k - 1, by omega⟩
  rw [hf, show n - (k + 1) = f by omega]
  simp only [run]
  rw [if_pos ⟨h, hp⟩]
theorem ru_off {p : Nat → Bool} {tp : Nat → Nat} {n k : Nat} (h : ¬ (k < n ∧ p (tp k) = true)) : ru p tp n k = k := by
  unfold ru
  cases hf : n - k with
  | zero => rfl
  | succ f => simp only [run]; rw [if_neg h]
def dv (tp : Nat → Nat) (k : Nat) : Nat → Nat
  | 0 => 0
  | i + 1 => 10 * dv tp k i + (tp (k + i) - 48)
def TkC (mi : TMi) (tp : Nat → Nat) (n : Nat) : Prop := mi 12 1 = nI n ∧ n ≤ 900 ∧ ∀ j, j < n → mi 2 j = sby (tp j) ∧ tp j < 256
theorem dg_add : ∀ v, v < 100 → ∀ b, b < 58 → 48 ≤ b → ((nI v * 10) + sby b) - 48 = nI (10 * v + (b - 48)) := by decide +kernel
theorem c_To_number {l : Launch} {h : Nat} {mi : TMi} {ml : TMl} {z k n : Nat} {tp : Nat → Nat} {Q : Int32 → TMi → TMl → Nat → Prop} (hT : TkC mi tp n) (hk : mi 12 2 = nI k) (hkn : k ≤ n)
    (hq : ∀ mi', (∀ q, q ≠ 12 → mi' q = mi q) → (∀ s, s ≠ 2 → s ≠ 5 → mi' 12 s = mi 12 s) → mi' 12 2 = nI (ru isD tp n k) → mi' 12 5 = nI (dv tp k (min 3 (ru isD tp n k - k))) → Q (if ru isD tp n k - k ≤ 3 then 21 else 23) mi' ml z) : CI l (h + 2) m_To_number [.ref 12] mi ml z Q := by
  refine t_To_number mi ml z ?_
  have key : ∀ f i m, n - (k + i) = f → k + i ≤ n → (∀ q, q ≠ 12 → m q = mi q) → (∀ s, s ≠ 2 → s ≠ 5 → m 12 s = mi 12 s) → m 12 2 = nI (k + i) → m 12 5 = nI (dv tp k (min 3 i)) → dv tp k (min 3 i) < 10 ^ (min 3 i) → ru isD tp n k = ru isD tp n (k + i) → Ev l (h + 2) m_To_number 7 ([.ref 12, .int (nI i)], [], st m ml z) (qI Q) := by
    intro f
    induction f with
    | zero =>
      intro i m hf hi E1 E2 E3 E4 E5 E6
      have er : ru isD tp n k = k + i := by rw [E6, ru_off (by omega)]
      have hn9 := hT.2.1
      refine t_To_number_7 m ml z _ ⟨fun _ => ?_, fun c => absurd (show m 12 1 ≤ m 12 2 by rw [E2 1 (by decide) (by decide), hT.1, E3]; exact nI_le (by omega) (by omega)) c⟩
      have hq := hq m E1 E2 (by rw [E3, er]) (by rw [E4, er, show k + i - k = i by omega])
      rw [er, show k + i - k = i by omega] at hq
      show (nI 3 < nI i → _) ∧ (¬ nI 3 < nI i → _)
      rw [Int32.lt_iff_toInt_lt, nI_toInt (by decide), nI_toInt (by omega)]
      refine ⟨fun c => ?_, fun c => ?_⟩
      · rw [if_neg (by omega)] at hq; exact hq
      · rw [if_pos (by omega)] at hq; exact hq
    | succ f ih =>
      intro i m hf hi E1 E2 E3 E4 E5 E6
      have hn9 := hT.2.1
      have hlt : k + i < n := by omega
      obtain ⟨b1, b2⟩ := hT.2.2 (k + i) hlt
      refine t_To_number_7 m ml z _ ⟨fun c => ?_, fun _ => ?_⟩
      · rw [E2 1 (by decide) (by decide), hT.1, E3, nI_leI (by omega) (by omega)] at c; omega
      rw [E3, cl_nI (by omega), E1 2 (by decide), b1]
      refine ⟨in_nI (by omega) (by decide), c_To_isDigit b2 ?_⟩
      rw [bI_0]
      refine ⟨fun c => ?_, fun c => ?_⟩
      · have er : ru isD tp n k = k + i := by rw [E6, ru_off (by rw [c]; simp)]
        have hq := hq m E1 E2 (by rw [E3, er]) (by rw [E4, er, show k + i - k = i by omega])
        rw [er, show k + i - k = i by omega] at hq
        show (nI 3 < nI i → _) ∧ (¬ nI 3 < nI i → _)
        rw [Int32.lt_iff_toInt_lt, nI_toInt (by decide), nI_toInt (by omega)]
        refine ⟨fun c => ?_, fun c => ?_⟩
        · rw [if_neg (by omega)] at hq; exact hq
        · rw [if_pos (by omega)] at hq; exact hq
      · rw [Bool.not_eq_false] at c
        have er := E6.trans (ru_on hlt c)
        have hd : 48 ≤ tp (k + i) ∧ tp (k + i) ≤ 57 := by unfold isD at c; exact of_decide_eq_true c
        rw [E3, cl_nI (by omega), E1 2 (by decide), b1, nI_1, nI_1]
        show (nI 3 ≤ nI i → _) ∧ (¬ nI 3 ≤ nI i → _)
        rw [nI_leI (by decide) (by omega)]
        refine ⟨fun c3 => ?_, fun c3 => ⟨in_nI (by omega) (by decide), ?_⟩⟩
        · refine ih (i + 1) _ (by omega) (by omega) (fun q hq' => by rw [up_ne _ _ _ hq']; exact E1 q hq') (fun s s1 s2 => by rw [up_nk _ _ _ s1]; exact E2 s s1 s2) (up_at _ _ _ _) ?_ ?_ er
          · rw [up_nk _ _ _ (by decide), E4, show min 3 (i + 1) = min 3 i by omega]
          · rw [show min 3 (i + 1) = min 3 i by omega]; exact E5
        · have hmi : min 3 i = i := by omega
          rw [hmi] at E4 E5
          have hv : dv tp k i < 100 := Nat.lt_of_lt_of_le E5 (Nat.le_trans (Nat.pow_le_pow_right (by decide) (show i ≤ 2 by omega)) (by decide))
          have hdv : dv tp k (i + 1) = 10 * dv tp k i + (tp (k + i) - 48) := rfl
          rw [E4, dg_add _ hv _ (by omega) hd.1, up_nk _ _ _ (by decide), E3, nI_1]
          refine ih (i + 1) _ (by omega) (by omega) (fun q hq' => by rw [up_ne _ _ _ hq', up_ne _ _ _ hq']; exact E1 q hq') (fun s s1 s2 => by rw [up_nk _ _ _ s1, up_nk _ _ _ s2]; exact E2 s s1 s2) (up_at _ _ _ _) ?_ ?_ er
          · rw [up_nk _ _ _ (by decide), up_at, show min 3 (i + 1) = i + 1 by omega, hdv]
          · rw [show min 3 (i + 1) = i + 1 by omega, hdv, Nat.pow_succ]; omega
  exact key _ 0 _ rfl (by omega) (fun q hq' => up_ne _ _ _ hq') (fun s s1 s2 => up_nk _ _ _ s2) (by rw [up_nk _ _ _ (by decide)]; exact hk) (up_at _ _ _ _) (show (0 : Nat) < 1 by decide) rfl
