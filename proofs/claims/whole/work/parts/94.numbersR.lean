/-! ===== a number token of the reference ===== -/
theorem i32_addsub (x y : Int32) : x + y - x = y := by
  apply Int32.toBitVec_inj.mp
  rw [Int32.toBitVec_sub, Int32.toBitVec_add]
  bv_omega
theorem nI_dif (k i : Nat) : nI (k + i) - nI k = nI i := by rw [← nI_add]; exact i32_addsub _ _
def TkR (mi : TMi) (tp : Nat → Nat) (n : Nat) : Prop := mi 119 8 = nI n ∧ n ≤ 900 ∧ ∀ j, j < n → mi 122 j = nI (tp j) ∧ tp j < 256
theorem dg_addR : ∀ v, v < 100 → ∀ b, b < 58 → 48 ≤ b → ((10 * nI v) + nI b) - 48 = nI (10 * v + (b - 48)) := by decide +kernel
theorem c_R_isDigit_m1 {l : Launch} {h : Nat} {mi : TMi} {ml : TMl} {z : Nat} {Q : Int32 → TMi → TMl → Nat → Prop} (hq : Q 0 mi ml z) : CI l (h + 1) m_R_isDigit [.int (-1)] mi ml z Q :=
  t_R_isDigit mi ml z _ ⟨fun _ => hq, fun c => absurd (by decide) c⟩
theorem c_next146 {l : Launch} {h : Nat} {mi : TMi} {ml : TMl} {z k n : Nat} {tp : Nat → Nat} {Q : TMi → TMl → Nat → Prop} (hT : TkR mi tp n) (h6 : mi 119 6 = nI k) (h7 : mi 119 7 = nI k) (h10 : mi 119 10 = nI 0) (hkn : k ≤ n)
    (hq : ∀ mi', (∀ q, q ≠ 119 → mi' q = mi q) → (∀ s, s ≠ 7 → s ≠ 10 → s ≠ 9 → mi' 119 s = mi 119 s) → mi' 119 7 = nI (ru isD tp n k) → mi' 119 10 = nI (dv tp k (min 3 (ru isD tp n k - k))) → mi' 119 9 = (if ru isD tp n k - k ≤ 3 then 23 else 25) → Q mi' ml z) : Ev l (h + 2) m_R_next 146 ([.ref 119, .retAddr 0], [], st mi ml z) (qV Q) := by
  have hn9 := hT.2.1
  have fin : ∀ i m, k + i ≤ n → (∀ q, q ≠ 119 → m q = mi q) → (∀ s, s ≠ 7 → s ≠ 10 → s ≠ 9 → m 119 s = mi 119 s) → m 119 7 = nI (k + i) → m 119 10 = nI (dv tp k (min 3 i)) → ru isD tp n k = k + i → ((((m 119 7) - (m 119 6)) ≤ 3 → Q (up m 119 9 23) ml z) ∧ (¬ ((m 119 7) - (m 119 6)) ≤ 3 → Q (up m 119 9 25) ml z)) := fun i m hi E1 E2 E3 E4 er => by
    rw [E3, E2 6 (by decide) (by decide) (by decide), h6, nI_dif]
    show (nI i ≤ nI 3 → _) ∧ (¬ nI i ≤ nI 3 → _)
    rw [nI_leI (by omega) (by decide)]
    refine ⟨fun c => ?_, fun c => ?_⟩
    · refine hq _ (fun q hq' => by rw [up_ne _ _ _ hq']; exact E1 q hq') (fun s s1 s2 s3 => by rw [up_nk _ _ _ s3]; exact E2 s s1 s2 s3) (by rw [up_nk _ _ _ (by decide), E3, er]) (by rw [up_nk _ _ _ (by decide), E4, er, show k + i - k = i by omega]) (by rw [up_at, er, if_pos (by omega)])
    · refine hq _ (fun q hq' => by rw [up_ne _ _ _ hq']; exact E1 q hq') (fun s s1 s2 s3 => by rw [up_nk _ _ _ s3]; exact E2 s s1 s2 s3) (by rw [up_nk _ _ _ (by decide), E3, er]) (by rw [up_nk _ _ _ (by decide), E4, er, show k + i - k = i by omega]) (by rw [up_at, er, if_neg (by omega)])
  have key : ∀ f i m, n - (k + i) = f → k + i ≤ n → (∀ q, q ≠ 119 → m q = mi q) → (∀ s, s ≠ 7 → s ≠ 10 → s ≠ 9 → m 119 s = mi 119 s) → m 119 7 = nI (k + i) → m 119 10 = nI (dv tp k (min 3 i)) → dv tp k (min 3 i) < 10 ^ (min 3 i) → ru isD tp n k = ru isD tp n (k + i) → Ev l (h + 2) m_R_next 146 ([.ref 119, .retAddr 0], [], st m ml z) (qV Q) := by
    intro f
    induction f with
    | zero =>
      intro i m hf hi E1 E2 E3 E4 E5 E6
      have er : ru isD tp n k = k + i := by rw [E6, ru_off (by omega)]
      have f := fin i m hi E1 E2 E3 E4 er
      refine t_R_next_146 m ml z ?_
      have key2 : CI l (h + 1) m_R_see [.ref 119, .int (m 119 7)] m ml z (fun x1 mi1 ml1 z1 => x1 = -1 ∧ mi1 = m ∧ ml1 = ml ∧ z1 = z) := by
        rw [E3]
        refine c_R_see (n := n) (tp := tp) (by rw [E2 8 (by decide) (by decide) (by decide)]; exact hT.1) hn9 (by omega) (fun j hj => by rw [E1 122 (by decide)]; exact (hT.2.2 j hj).1) ?_
        rw [if_neg (by omega)]
        exact ⟨rfl, rfl, rfl, rfl⟩
      refine CI.mono (fun x1 mi1 ml1 z1 H => ?_) key2
      obtain ⟨q1, q2, q3, q4⟩ := H
      rw [q1, q2, q3, q4]
      exact c_R_isDigit_m1 ⟨fun _ => f, fun c => absurd rfl c⟩
    | succ f ih =>
      intro i m hf hi E1 E2 E3 E4 E5 E6
      have hlt : k + i < n := by omega
      obtain ⟨b1, b2⟩ := hT.2.2 (k + i) hlt
      have see : ∀ {QQ : Int32 → TMi → TMl → Nat → Prop}, QQ (nI (tp (k + i))) m ml z → CI l (h + 1) m_R_see [.ref 119, .int (nI (k + i))] m ml z QQ := fun {QQ} hqq => by
        refine c_R_see (n := n) (tp := tp) (by rw [E2 8 (by decide) (by decide) (by decide)]; exact hT.1) hn9 (by omega) (fun j hj => by rw [E1 122 (by decide)]; exact (hT.2.2 j hj).1) ?_
        rw [if_pos hlt]
        exact hqq
      have fz := fin i m hi E1 E2 E3 E4
      have e6 : m 119 6 = nI k := by rw [E2 6 (by decide) (by decide) (by decide)]; exact h6
      refine t_R_next_146 m ml z ?_
      rw [E3]
      refine see (c_R_isDigit b2 ?_)
      rw [bI_0]
      refine ⟨fun c => fz (by rw [E6, ru_off (by rw [c]; simp)]), fun c => ?_⟩
      rw [Bool.not_eq_false] at c
      have er := E6.trans (ru_on hlt c)
      have hd : 48 ≤ tp (k + i) ∧ tp (k + i) ≤ 57 := by unfold isD at c; exact of_decide_eq_true c
      rw [E3, e6, nI_dif, nI_1]
      show (nI 3 ≤ nI i → _) ∧ (¬ nI 3 ≤ nI i → _)
      rw [nI_leI (by decide) (by omega)]
      refine ⟨fun c3 => ?_, fun c3 => see ?_⟩
      · refine ih (i + 1) _ (by omega) (by omega) (fun q hq' => by rw [up_ne _ _ _ hq']; exact E1 q hq') (fun s s1 s2 s3 => by rw [up_nk _ _ _ s1]; exact E2 s s1 s2 s3) (up_at _ _ _ _) ?_ ?_ er
        · rw [up_nk _ _ _ (by decide), E4, show min 3 (i + 1) = min 3 i by omega]
        · rw [show min 3 (i + 1) = min 3 i by omega]; exact E5
      · have hmi : min 3 i = i := by omega
        rw [hmi] at E4 E5
        have hv : dv tp k i < 100 := Nat.lt_of_lt_of_le E5 (Nat.le_trans (Nat.pow_le_pow_right (by decide) (show i ≤ 2 by omega)) (by decide))
        have hdv : dv tp k (i + 1) = 10 * dv tp k i + (tp (k + i) - 48) := rfl
        rw [E4, dg_addR _ hv _ (by omega) hd.1, up_nk _ _ _ (by decide), E3, nI_1]
        refine ih (i + 1) _ (by omega) (by omega) (fun q hq' => by rw [up_ne _ _ _ hq', up_ne _ _ _ hq']; exact E1 q hq') (fun s s1 s2 s3 => by rw [up_nk _ _ _ s1, up_nk _ _ _ s2]; exact E2 s s1 s2 s3) (up_at _ _ _ _) ?_ ?_ er
        · rw [up_nk _ _ _ (by decide), up_at, show min 3 (i + 1) = i + 1 by omega, hdv]
        · rw [show min 3 (i + 1) = i + 1 by omega, hdv, Nat.pow_succ]; omega
  exact key _ 0 mi rfl (by omega) (fun q hq' => rfl) (fun s s1 s2 s3 => rfl) h7 h10 (show (0 : Nat) < 1 by decide) rfl
