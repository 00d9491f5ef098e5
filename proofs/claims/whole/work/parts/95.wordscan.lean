/-! ===== the letters of a word, class ===== -/
theorem c_wordScan {l : Launch} {h : Nat} {mi : TMi} {ml : TMl} {z k n : Nat} {tp : Nat → Nat} {Q : Int32 → TMi → TMl → Nat → Prop} (hT : TkC mi tp n) (hk : mi 12 2 = nI k) (hkn : k ≤ n)
    (hq : ∀ m', (∀ q, q ≠ 12 → m' q = mi q) → (∀ s, s ≠ 2 → m' 12 s = mi 12 s) → m' 12 2 = nI (ru isL tp n k) → Ev l (h + 2) m_To_word 51 ([.ref 12, .int ((m' 12 2) - (m' 12 4)), .int 0, .retAddr 0], [], st m' ml z) (qI Q)) : CI l (h + 2) m_To_word [.ref 12] mi ml z Q := by
  have hn9 := hT.2.1
  show Ev l (h + 2) m_To_word 0 ([.ref 12, .retAddr 0, .retAddr 0, .retAddr 0], [], st mi ml z) (qI Q)
  have key : ∀ f i m, n - (k + i) = f → k + i ≤ n → (∀ q, q ≠ 12 → m q = mi q) → (∀ s, s ≠ 2 → m 12 s = mi 12 s) → m 12 2 = nI (k + i) → ru isL tp n k = ru isL tp n (k + i) → Ev l (h + 2) m_To_word 0 ([.ref 12, .retAddr 0, .retAddr 0, .retAddr 0], [], st m ml z) (qI Q) := by
    intro f
    induction f with
    | zero =>
      intro i m hf hi E1 E2 E3 E6
      have er : ru isL tp n k = k + i := by rw [E6, ru_off (by omega)]
      exact t_To_word_0 m ml z ⟨fun _ => hq m E1 E2 (by rw [E3, er]), fun c => absurd (show m 12 1 ≤ m 12 2 by rw [E2 1 (by decide), hT.1, E3]; exact nI_le (by omega) (by omega)) c⟩
    | succ f ih =>
      intro i m hf hi E1 E2 E3 E6
      have hlt : k + i < n := by omega
      obtain ⟨b1, b2⟩ := hT.2.2 (k + i) hlt
      have hz := hq m E1 E2
      refine t_To_word_0 m ml z ⟨fun c => ?_, fun _ => ?_⟩
      · rw [E2 1 (by decide), hT.1, E3, nI_leI (by omega) (by omega)] at c; omega
      rw [E3, cl_nI (by omega), E1 2 (by decide), b1]
      refine ⟨in_nI (by omega) (by decide), c_To_isLetter b2 ?_⟩
      rw [bI_0]
      refine ⟨fun c => hz (by rw [E3, E6, ru_off (by rw [c]; simp)]), fun c => ?_⟩
      rw [Bool.not_eq_false] at c
      rw [E3, nI_1]
      exact ih (i + 1) _ (by omega) (by omega) (fun q hq' => by rw [up_ne _ _ _ hq']; exact E1 q hq') (fun s s1 => by rw [up_nk _ _ _ s1]; exact E2 s s1) (up_at _ _ _ _) (E6.trans (ru_on hlt c))
  exact key _ 0 mi rfl (by omega) (fun q hq' => rfl) (fun s s1 => rfl) hk rfl
