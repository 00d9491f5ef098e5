/-! ===== a word token, class ===== -/
/-- the first word from w on that it is, 20 if none -/
def wOk (tp : Nat → Nat) (k m : Nat) (x : Nat) : Prop := (x < 20 ∧ m ≤ 5 ∧ wIs tp k m x ∧ ∀ w, w < x → ¬ wIs tp k m w) ∨ (x = 20 ∧ (5 < m ∨ ∀ w, w < 20 → ¬ wIs tp k m w))
theorem c_word51 {l : Launch} {h : Nat} {mi : TMi} {ml : TMl} {z k n m : Nat} {tp : Nat → Nat} {Q : Int32 → TMi → TMl → Nat → Prop} (hT : TkC mi tp n) (hk : mi 12 4 = nI k) (hkn : k + m ≤ n)
    (hq : ∀ x, wOk tp k m x → Q (nI x) mi ml z) : Ev l (h + 5) m_To_word 51 ([.ref 12, .int (nI m), .int (nI 0), .retAddr 0], [], st mi ml z) (qI Q) := by
  have hn9 := hT.2.1
  refine loop (P := fun w => (∀ w', w' < w → ¬ wIs tp k m w') → Ev l (h + 5) m_To_word 51 ([.ref 12, .int (nI m), .int (nI w), .retAddr 0], [], st mi ml z) (qI Q)) 20 (fun hw => ?_) (fun w hw20 ih hw => ?_) (fun w hw => absurd hw (Nat.not_lt_zero _))
  · exact t_To_word_51 mi ml z _ _ ⟨fun _ => hq 20 (Or.inr ⟨rfl, Or.inr hw⟩), fun c => absurd (by decide) c⟩
  · refine t_To_word_51 mi ml z _ _ ⟨fun c => absurd c (ge_no (N := 20) rfl (by decide) hw20), fun _ => ?_⟩
    show (nI 5 < nI m → _) ∧ (¬ nI 5 < nI m → _)
    rw [Int32.lt_iff_toInt_lt, nI_toInt (by decide), nI_toInt (by omega)]
    refine ⟨fun c => hq 20 (Or.inr ⟨rfl, Or.inl (by omega)⟩), fun c => ?_⟩
    refine c_word64 hT hk hkn (by omega) hw20 (fun e => hq w (Or.inl ⟨hw20, by omega, e, hw⟩)) (fun e => ih (fun w' hw' => ?_))
    by_cases q : w' = w
    · rw [q]; exact e
    · exact hw w' (by omega)
