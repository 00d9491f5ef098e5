/-! ===== letters, digits, signs ===== -/
def isL (b : Nat) : Bool := decide (97 ≤ b ∧ b ≤ 122)
def isD (b : Nat) : Bool := decide (48 ≤ b ∧ b ≤ 57)
def isS (b : Nat) : Bool := decide (b = 10 ∨ b = 32)
def isG (b : Nat) : Bool := (List.range 12).any (fun i => sB 1 i == nI b)
theorem lf_L : ∀ b, b < 256 → (sby b < 97 → isL b = false) ∧ (¬ sby b < 97 → 122 < sby b → isL b = false) ∧ (¬ sby b < 97 → ¬ 122 < sby b → isL b = true) := by decide +kernel
theorem lf_D : ∀ b, b < 256 → (sby b < 48 → isD b = false) ∧ (¬ sby b < 48 → 57 < sby b → isD b = false) ∧ (¬ sby b < 48 → ¬ 57 < sby b → isD b = true) := by decide +kernel
theorem lf_S : ∀ b, b < 256 → ((sby b = 10 ∨ sby b = 32) ↔ isS b = true) := by decide +kernel
theorem lr_L : ∀ b, b < 256 → (nI b < 97 → isL b = false) ∧ (¬ nI b < 97 → 122 < nI b → isL b = false) ∧ (¬ nI b < 97 → ¬ 122 < nI b → isL b = true) := by decide +kernel
theorem lr_D : ∀ b, b < 256 → (nI b < 48 → isD b = false) ∧ (¬ nI b < 48 → 57 < nI b → isD b = false) ∧ (¬ nI b < 48 → ¬ 57 < nI b → isD b = true) := by decide +kernel
theorem lf_pos : ∀ b, b < 256 → (sby b ≤ 0 → isG b = false) ∧ (¬ sby b ≤ 0 → sby b = nI b ∧ b < 128 ∧ ((sby b).toUInt32 % 65536).toInt32 = nI b) := by decide +kernel
theorem c_To_isLetter {l : Launch} {h : Nat} {mi : TMi} {ml : TMl} {z b : Nat} {Q : Int32 → TMi → TMl → Nat → Prop} (hb : b < 256) (hq : Q (bI (isL b)) mi ml z) : CI l (h + 1) m_To_isLetter [.int (sby b)] mi ml z Q := by
  obtain ⟨k1, k2, k3⟩ := lf_L b hb
  refine t_To_isLetter mi ml z _ ⟨fun c => ?_, fun c => ⟨fun c2 => ?_, fun c2 => ?_⟩⟩
  · rw [k1 c] at hq; exact hq
  · rw [k2 c c2] at hq; exact hq
  · rw [k3 c c2] at hq; exact hq
theorem c_To_isDigit {l : Launch} {h : Nat} {mi : TMi} {ml : TMl} {z b : Nat} {Q : Int32 → TMi → TMl → Nat → Prop} (hb : b < 256) (hq : Q (bI (isD b)) mi ml z) : CI l (h + 1) m_To_isDigit [.int (sby b)] mi ml z Q := by
  obtain ⟨k1, k2, k3⟩ := lf_D b hb
  refine t_To_isDigit mi ml z _ ⟨fun c => ?_, fun c => ⟨fun c2 => ?_, fun c2 => ?_⟩⟩
  · rw [k1 c] at hq; exact hq
  · rw [k2 c c2] at hq; exact hq
  · rw [k3 c c2] at hq; exact hq
theorem c_R_isSmall {l : Launch} {h : Nat} {mi : TMi} {ml : TMl} {z b : Nat} {Q : Int32 → TMi → TMl → Nat → Prop} (hb : b < 256) (hq : Q (bI (isL b)) mi ml z) : CI l (h + 1) m_R_isSmall [.int (nI b)] mi ml z Q := by
  obtain ⟨k1, k2, k3⟩ := lr_L b hb
  refine t_R_isSmall mi ml z _ ⟨fun c => ?_, fun c => ⟨fun c2 => ?_, fun c2 => ?_⟩⟩
  · rw [k1 c] at hq; exact hq
  · rw [k2 c c2] at hq; exact hq
  · rw [k3 c c2] at hq; exact hq
theorem c_R_isDigit {l : Launch} {h : Nat} {mi : TMi} {ml : TMl} {z b : Nat} {Q : Int32 → TMi → TMl → Nat → Prop} (hb : b < 256) (hq : Q (bI (isD b)) mi ml z) : CI l (h + 1) m_R_isDigit [.int (nI b)] mi ml z Q := by
  obtain ⟨k1, k2, k3⟩ := lr_D b hb
  refine t_R_isDigit mi ml z _ ⟨fun c => ?_, fun c => ⟨fun c2 => ?_, fun c2 => ?_⟩⟩
  · rw [k1 c] at hq; exact hq
  · rw [k2 c c2] at hq; exact hq
  · rw [k3 c c2] at hq; exact hq
theorem c_R_see {l : Launch} {h : Nat} {mi : TMi} {ml : TMl} {z k n : Nat} {tp : Nat → Nat} {Q : Int32 → TMi → TMl → Nat → Prop} (hn : mi 119 8 = nI n) (hn9 : n ≤ 900) (hk : k < 2 ^ 31) (hT : ∀ j, j < n → mi 122 j = nI (tp j)) (hq : Q (if k < n then nI (tp k) else -1) mi ml z) : CI l (h + 1) m_R_see [.ref 119, .int (nI k)] mi ml z Q := by
  refine t_R_see mi ml z _ ?_
  rw [hn, nI_leI (by omega) hk]
  refine ⟨fun c => ?_, fun c => ⟨in_nI (by omega) (by decide), ?_⟩⟩
  · rw [if_neg (by omega)] at hq; exact hq
  · rw [cl_nI hk, hT k (by omega)]
    rw [if_pos (by omega)] at hq; exact hq
theorem c_To_sign {l : Launch} {h : Nat} {mi : TMi} {ml : TMl} {z b : Nat} {Q : Int32 → TMi → TMl → Nat → Prop} (hb : b < 256) (hq : Q (if isG b = true then nI b else 23) mi ml z) : CI l (h + 5) m_To_sign [.int (sby b)] mi ml z Q := by
  obtain ⟨k1, k2⟩ := lf_pos b hb
  refine t_To_sign mi ml z _ ⟨fun c => ?_, fun c => ?_⟩
  · rw [if_neg (by rw [k1 c]; decide)] at hq; exact hq
  · obtain ⟨e1, e2, e3⟩ := k2 c
    rw [e3, e1]
    have ht : (nI b).toInt = b := nI_toInt (by omega)
    refine c_JS_indexOf (j := 1) (by decide) (by omega) (fun i hi e => ?_) (fun hn => ?_)
    · have hi : i < 12 := hi
      have hg : isG b = true := List.any_eq_true.mpr ⟨i, List.mem_range.mpr hi, by rw [e]; exact beq_self_eq_true _⟩
      rw [if_pos hg] at hq
      refine ⟨fun q => ?_, fun _ => hq⟩
      rw [i32_lt0, nI_toInt (by omega)] at q
      omega
    · have hg : ¬ isG b = true := fun k => by
        obtain ⟨i, h1, h2⟩ := List.any_eq_true.mp k
        exact hn i (List.mem_range.mp h1) (eq_of_beq h2)
      rw [if_neg hg] at hq
      exact ⟨fun _ => hq, fun q => absurd (by decide) q⟩
