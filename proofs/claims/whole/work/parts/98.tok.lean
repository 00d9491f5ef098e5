/-! ===== tokens: what both read ===== -/
theorem ru_ge (p : Nat → Bool) (tp : Nat → Nat) (n : Nat) : ∀ f k, n - k = f → k ≤ ru p tp n k
  | 0, k, h => by rw [ru_off (by omega)]; exact Nat.le_refl _
  | f + 1, k, h => by
    by_cases c : k < n ∧ p (tp k) = true
    · rw [ru_on c.1 c.2]
      have := ru_ge p tp n f (k + 1) (by omega)
      omega
    · rw [ru_off c]; exact Nat.le_refl _
theorem ru_le (p : Nat → Bool) (tp : Nat → Nat) (n : Nat) : ∀ f k, n - k = f → k ≤ n → ru p tp n k ≤ n
  | 0, k, h, hk => by rw [ru_off (by omega)]; exact hk
  | f + 1, k, h, hk => by
    by_cases c : k < n ∧ p (tp k) = true
    · rw [ru_on c.1 c.2]
      exact ru_le p tp n f (k + 1) (by omega) (by omega)
    · rw [ru_off c]; exact hk
theorem ru_all (p : Nat → Bool) (tp : Nat → Nat) (n : Nat) : ∀ f k, n - k = f → ∀ j, k ≤ j → j < ru p tp n k → p (tp j) = true
  | 0, k, h, j, h1, h2 => by rw [ru_off (by omega)] at h2; omega
  | f + 1, k, h, j, h1, h2 => by
    by_cases c : k < n ∧ p (tp k) = true
    · rw [ru_on c.1 c.2] at h2
      by_cases e : j = k
      · rw [e]; exact c.2
      · exact ru_all p tp n f (k + 1) (by omega) j (by omega) h2
    · rw [ru_off c] at h2; omega
theorem ru_end (p : Nat → Bool) (tp : Nat → Nat) (n : Nat) : ∀ f k, n - k = f → ru p tp n k < n → p (tp (ru p tp n k)) = false
  | 0, k, h, h1 => by rw [ru_off (by omega)] at h1; omega
  | f + 1, k, h, h1 => by
    by_cases c : k < n ∧ p (tp k) = true
    · rw [ru_on c.1 c.2] at h1 ⊢
      exact ru_end p tp n f (k + 1) (by omega) h1
    · rw [ru_off c] at h1 ⊢
      cases q : p (tp k)
      · rfl
      · exact absurd ⟨h1, q⟩ c
theorem wOk_uniq {tp : Nat → Nat} {k m x y : Nat} (hx : wOk tp k m x) (hy : wOk tp k m y) : x = y := by
  rcases hx with ⟨a1, a2, a3, a4⟩ | ⟨a1, a2⟩ <;> rcases hy with ⟨b1, b2, b3, b4⟩ | ⟨b1, b2⟩
  · rcases Nat.lt_trichotomy x y with h | h | h
    · exact absurd a3 (b4 x h)
    · exact h
    · exact absurd b3 (a4 y h)
  · rcases b2 with b2 | b2
    · omega
    · exact absurd a3 (b2 x a1)
  · rcases a2 with a2 | a2
    · omega
    · exact absurd b3 (a2 y b1)
  · omega
theorem wOk_ex (tp : Nat → Nat) (k m : Nat) : ∃ x, wOk tp k m x := by
  by_cases hm : m ≤ 5
  · have key : ∀ N, (∃ x, x < N ∧ wIs tp k m x ∧ ∀ w, w < x → ¬ wIs tp k m w) ∨ ∀ w, w < N → ¬ wIs tp k m w := by
      intro N
      induction N with
      | zero => exact Or.inr (fun w hw => absurd hw (Nat.not_lt_zero _))
      | succ N ih =>
        rcases ih with ⟨x, h1, h2, h3⟩ | ih
        · exact Or.inl ⟨x, by omega, h2, h3⟩
        · by_cases c : wIs tp k m N
          · exact Or.inl ⟨N, by omega, c, ih⟩
          · refine Or.inr (fun w hw => ?_)
            by_cases e : w = N
            · rw [e]; exact c
            · exact ih w (by omega)
    rcases key 20 with ⟨x, h1, h2, h3⟩ | h
    · exact ⟨x, Or.inl ⟨h1, hm, h2, h3⟩⟩
    · exact ⟨20, Or.inr ⟨rfl, Or.inr h⟩⟩
  · exact ⟨20, Or.inr ⟨rfl, Or.inl (by omega)⟩⟩
noncomputable def wdOf (tp : Nat → Nat) (k m : Nat) : Nat := Classical.choose (wOk_ex tp k m)
theorem wdOf_ok (tp : Nat → Nat) (k m : Nat) : wOk tp k m (wdOf tp k m) := Classical.choose_spec (wOk_ex tp k m)
theorem wdOf_le (tp : Nat → Nat) (k m : Nat) : wdOf tp k m ≤ 20 := by
  rcases wdOf_ok tp k m with ⟨h, _⟩ | ⟨h, _⟩ <;> omega
/-- kinds of the reference by kinds of the class -/
def rkT : List Nat := [0, 1, 2, 3, 6, 8, 16, 4, 5, 7, 9, 10, 11, 12, 13, 14, 15, 19, 17, 18, 22, 23, 24, 25] ++ List.replicate 16 99 ++ [35, 36, 34, 32, 99, 33] ++ List.replicate 12 99 ++ [31, 30, 40, 39, 41] ++ List.replicate 28 99 ++ [37, 99, 38]
def rk (k : Nat) : Nat := rkT.getD k 99
def ko (n : Nat) : Nat := [1, 6, 11, 16, 21, 25, 28, 34, 39, 44, 50, 56, 62, 65, 70, 75, 79, 85, 89, 92, 96].getD n 0
def kl (n : Nat) : Nat := [4, 4, 4, 4, 3, 2, 5, 4, 4, 5, 5, 5, 2, 4, 4, 3, 5, 3, 2, 3].getD n 0
theorem ko_s : ∀ n, n < 20 → ko n + kl n + 1 = ko (n + 1) ∧ ko n + kl n < 96 ∧ kl n ≤ 5 ∧ 0 < kl n := by decide
theorem k_sp : ∀ n, n < 20 → ∀ i, i < 6 → (i < kl n → ¬ sB 2 (ko n + i) = 32) ∧ (i = kl n → sB 2 (ko n + i) = 32) := by decide +kernel
theorem k_wd : ∀ w, w < 20 → rk w < 20 ∧ (∀ s, s < 5 → (sB 0 (w * 5 + s) = 32 ↔ kl (rk w) ≤ s)) ∧ ∀ s, s < 5 → s < kl (rk w) → sB 2 (ko (rk w) + s) = sB 0 (w * 5 + s) := by decide +kernel
theorem k_inv : ∀ n, n < 20 → ∃ w, w < 20 ∧ rk w = n := by decide +kernel
theorem w_dis : ∀ w, w < 20 → ∀ v, v < 20 → (∀ s, s < 5 → sB 0 (w * 5 + s) = sB 0 (v * 5 + s)) → w = v := by decide +kernel
def kIs (tp : Nat → Nat) (k m n : Nat) : Prop := m = kl n ∧ ∀ i, i < m → nI (tp (k + i)) = sB 2 (ko n + i)
theorem sby_L {b : Nat} (h : isL b = true) : sby b = nI b ∧ b < 128 ∧ ¬ nI b = 32 := by
  have := of_decide_eq_true (show decide (97 ≤ b ∧ b ≤ 122) = true from h)
  refine ⟨?_, by omega, fun e => ?_⟩
  · unfold sby; rw [if_pos (by omega)]
  · have := nI_inj (a := b) (b := 32) (by omega) (by decide) e
    omega
theorem w_k {tp : Nat → Nat} {k m w : Nat} (hL : ∀ i, i < m → isL (tp (k + i)) = true) (hw : w < 20) : (m ≤ 5 ∧ wIs tp k m w) ↔ kIs tp k m (rk w) := by
  obtain ⟨t1, t2, t3⟩ := k_wd w hw
  obtain ⟨-, -, t4, t5⟩ := ko_s _ t1
  constructor
  · rintro ⟨hm, h⟩
    have e : m = kl (rk w) := by
      rcases Nat.lt_trichotomy m (kl (rk w)) with c | c | c
      · have h1 := h m (by omega)
        unfold wCh at h1
        rw [if_neg (by omega)] at h1
        have := (t2 m (by omega)).mp h1
        omega
      · exact c
      · have h1 := h (kl (rk w)) (by omega)
        unfold wCh at h1
        rw [if_pos c, (t2 _ (by omega)).mpr (Nat.le_refl _), (sby_L (hL _ c)).1] at h1
        exact absurd h1.symm (sby_L (hL _ c)).2.2
    refine ⟨e, fun i hi => ?_⟩
    have h1 := h i (by omega)
    unfold wCh at h1
    rw [if_pos hi, (sby_L (hL _ hi)).1] at h1
    rw [t3 i (by omega) (by omega), h1]
  · rintro ⟨e, h⟩
    refine ⟨by omega, fun s hs => ?_⟩
    unfold wCh
    by_cases c : s < m
    · rw [if_pos c, (sby_L (hL _ c)).1, h s c, t3 s hs (by omega)]
    · rw [if_neg c]
      exact (t2 s hs).mpr (by omega)
theorem k_ret {tp : Nat → Nat} {k m n : Nat} (hL : ∀ i, i < m → isL (tp (k + i)) = true) (hn : n < 20) (h : kIs tp k m n) : rk (wdOf tp k m) = n := by
  obtain ⟨w, hw, e⟩ := k_inv n hn
  have h1 := (w_k hL hw).mpr (by rw [e]; exact h)
  rcases wdOf_ok tp k m with ⟨a1, a2, a3, a4⟩ | ⟨a1, a2⟩
  · have : wdOf tp k m = w := w_dis _ a1 _ hw (fun s hs => by
      have b1 := a3 s hs
      have b2 := h1.2 s hs
      unfold wCh at b1 b2
      rw [b1, b2])
    rw [this, e]
  · rcases a2 with a2 | a2
    · omega
    · exact absurd h1.2 (a2 w hw)
theorem k_no {tp : Nat → Nat} {k m : Nat} (hL : ∀ i, i < m → isL (tp (k + i)) = true) (h : ∀ n, n < 20 → ¬ kIs tp k m n) : rk (wdOf tp k m) = 22 := by
  rcases wdOf_ok tp k m with ⟨a1, a2, a3, a4⟩ | ⟨a1, a2⟩
  · exact absurd ((w_k hL a1).mp ⟨a2, a3⟩) (h _ (k_wd _ a1).1)
  · rw [a1]; rfl
theorem c_R_keyAt {l : Launch} {h : Nat} {mi : TMi} {ml : TMl} {z k m n : Nat} {tp : Nat → Nat} {Q : Int32 → TMi → TMl → Nat → Prop} (hT : TkR mi tp n) (h6 : mi 119 6 = nI k) (h7 : mi 119 7 = nI (k + m)) (hkn : k + m ≤ n) (hL : ∀ i, i < m → isL (tp (k + i)) = true)
    (hq : Q (nI (rk (wdOf tp k m))) mi ml z) : CI l (h + 5) m_R_keyAt [.ref 119] mi ml z Q := by
  have hn9 := hT.2.1
  refine t_R_keyAt mi ml z ?_
  refine loop (P := fun w => (∀ w', w' < w → ¬ kIs tp k m w') → Ev l (h + 5) m_R_keyAt 4 ([.ref 119, .int (nI w), .int (nI (ko w)), .retAddr 0], [], st mi ml z) (qI Q)) 20 (fun hw => ?_) (fun w hw20 ih hw => ?_) (fun w hw => absurd hw (Nat.not_lt_zero _))
  · refine t_R_keyAt_4 mi ml z _ _ (c_JS_length (j := 2) (by decide) ⟨fun _ => ?_, fun c => absurd (by decide) c⟩)
    rw [k_no hL hw] at hq
    exact hq
  · obtain ⟨s1, s2, s3, s4⟩ := ko_s w hw20
    have skip : ¬ kIs tp k m w → Ev l (h + 5) m_R_keyAt 97 ([.ref 119, .int (nI w), .int (nI (ko w)), .retAddr 0], [], st mi ml z) (qI Q) := fun hno => by
      refine loop (P := fun i => Ev l (h + 5) m_R_keyAt 97 ([.ref 119, .int (nI w), .int (nI (ko w + i)), .retAddr 0], [], st mi ml z) (qI Q)) (kl w) ?_ (fun i hi ih2 => ?_)
      · refine t_R_keyAt_97 mi ml z _ _ (c_JS_charAt (j := 2) (by decide) (show ko w + kl w < 96 from s2) ⟨fun _ => ?_, fun c => absurd ((k_sp w hw20 _ (by omega)).2 rfl) c⟩)
        rw [nI_1, nI_1, s1]
        refine ih (fun w' hw' => ?_)
        by_cases e : w' = w
        · rw [e]; exact hno
        · exact hw w' (by omega)
      · refine t_R_keyAt_97 mi ml z _ _ (c_JS_charAt (j := 2) (by decide) (show ko w + i < 96 by omega) ⟨fun c => absurd c ((k_sp w hw20 i (by omega)).1 hi), fun _ => ?_⟩)
        rw [nI_1]
        exact ih2
    refine t_R_keyAt_4 mi ml z _ _ (c_JS_length (j := 2) (by decide) ⟨fun c => absurd c (nI_ge (show ko w < 96 by omega) (by decide)), fun _ => ?_⟩)
    refine loop (P := fun i => i ≤ m → (∀ i', i' < i → nI (tp (k + i')) = sB 2 (ko w + i')) → Ev l (h + 5) m_R_keyAt 15 ([.ref 119, .int (nI w), .int (nI (ko w)), .int (nI i)], [], st mi ml z) (qI Q)) (kl w) (fun hi hm => ?_) (fun i hi ih2 him hm => ?_) (Nat.zero_le _) (fun i hi => absurd hi (Nat.not_lt_zero _))
    · have hsp := (k_sp w hw20 (kl w) (by omega)).2 rfl
      refine t_R_keyAt_15 mi ml z _ _ _ ?_
      rw [nI_add]
      refine c_JS_charAt (j := 2) (by decide) (show ko w + kl w < 96 from s2) ⟨fun _ => c_JS_charAt (j := 2) (by decide) (show ko w + kl w < 96 from s2) ⟨fun c => absurd hsp c, fun _ => ?_⟩, fun c => absurd hsp c⟩
      rw [h6, h7, nI_add, nI_eq (by omega) (by omega)]
      refine ⟨fun c => skip (fun q => c ?_), fun c => ?_⟩
      · rw [q.1]
      · have q : kIs tp k m w := ⟨by omega, fun i' hi' => hm i' (by omega)⟩
        rw [k_ret hL hw20 q] at hq
        exact hq
    · have hsp := (k_sp w hw20 i (by omega)).1 hi
      refine t_R_keyAt_15 mi ml z _ _ _ ?_
      rw [nI_add]
      refine c_JS_charAt (j := 2) (by decide) (show ko w + i < 96 by omega) ⟨fun c => absurd c hsp, fun _ => ?_⟩
      rw [h6, h7, nI_add, nI_leI (by omega) (by omega)]
      refine ⟨fun c => c_JS_charAt (j := 2) (by decide) (show ko w + i < 96 by omega) ⟨fun _ => skip (fun q => ?_), fun c => absurd c hsp⟩, fun c => ⟨in_nI (by omega) (by decide), c_JS_charAt (j := 2) (by decide) (show ko w + i < 96 by omega) ?_⟩⟩
      · have := q.1
        omega
      · rw [cl_nI (by omega), (hT.2.2 (k + i) (by omega)).1]
        refine ⟨fun c2 => c_JS_charAt (j := 2) (by decide) (show ko w + i < 96 by omega) ⟨fun _ => skip (fun q => c2 (q.2 i (by omega))), fun c => absurd c hsp⟩, fun c2 => ?_⟩
        rw [nI_1]
        refine ih2 (by omega) (fun i' hi' => ?_)
        by_cases e : i' = i
        · rw [e]; exact c2
        · exact hm i' (by omega)
