/-! ===== which word, class ===== -/
def wCh (tp : Nat → Nat) (k m w s : Nat) : Prop := sB 0 (w * 5 + s) = (if s < m then sby (tp (k + s)) else 32)
def wIs (tp : Nat → Nat) (k m w : Nat) : Prop := ∀ s, s < 5 → wCh tp k m w s
theorem c_word64 {l : Launch} {h : Nat} {mi : TMi} {ml : TMl} {z k n m w : Nat} {tp : Nat → Nat} {Q : Int32 → TMi → TMl → Nat → Prop} (hT : TkC mi tp n) (hk : mi 12 4 = nI k) (hkn : k + m ≤ n) (hm : m ≤ 5) (hw : w < 20)
    (hq1 : wIs tp k m w → Q (nI w) mi ml z) (hq0 : ¬ wIs tp k m w → Ev l (h + 5) m_To_word 51 ([.ref 12, .int (nI m), .int (nI (w + 1)), .retAddr 0], [], st mi ml z) (qI Q)) : Ev l (h + 5) m_To_word 64 ([.ref 12, .int (nI m), .int (nI w), .int (nI 0)], [], st mi ml z) (qI Q) := by
  have hn9 := hT.2.1
  refine loop (P := fun s => (∀ s', s' < s → wCh tp k m w s') → Ev l (h + 5) m_To_word 64 ([.ref 12, .int (nI m), .int (nI w), .int (nI s)], [], st mi ml z) (qI Q)) 5 (fun hs => ?_) (fun s hs5 ih hs => ?_) (fun s hs => absurd hs (Nat.not_lt_zero _))
  · exact t_To_word_64 mi ml z _ _ _ ⟨fun _ => ⟨fun c => absurd rfl c, fun _ => hq1 hs⟩, fun c => absurd (by decide) c⟩
  · have n5 : ¬ nI s = 5 := fun e => by
      have := (nI_eq (a := s) (b := 5) (by omega) (by decide)).mp e
      omega
    have bad : ¬ wCh tp k m w s → ((¬ nI s = 5 → Ev l (h + 5) m_To_word 51 ([.ref 12, .int (nI m), .int (nI w + 1), .retAddr 0], [], st mi ml z) (qI Q)) ∧ (nI s = 5 → Q (nI w) mi ml z)) := fun hb => ⟨fun _ => by rw [nI_1]; exact hq0 (fun k => hb (k s hs5)), fun e => absurd e n5⟩
    have good : wCh tp k m w s → Ev l (h + 5) m_To_word 64 ([.ref 12, .int (nI m), .int (nI w), .int (nI s + 1)], [], st mi ml z) (qI Q) := fun hg => by
      rw [nI_1]
      exact ih (fun s' hs' => by
        by_cases e : s' = s
        · rw [e]; exact hg
        · exact hs s' (by omega))
    refine t_To_word_64 mi ml z _ _ _ ⟨fun c => absurd c (ge_no (N := 5) rfl (by decide) hs5), fun _ => ?_⟩
    have ei : nI w * 5 + nI s = nI (w * 5 + s) := by
      have : ∀ w, w < 20 → ∀ s, s < 5 → nI w * 5 + nI s = nI (w * 5 + s) := by decide +kernel
      exact this w hw s hs5
    rw [ei]
    refine c_JS_charAt (j := 0) (by decide) (show w * 5 + s < 100 by omega) ?_
    rw [nI_leI (by omega) (by omega)]
    refine ⟨fun c => ⟨fun c2 => bad (fun k => c2 ?_), fun c2 => good ?_⟩, fun c => ?_⟩
    · unfold wCh at k; rw [if_neg (by omega)] at k; exact k
    · unfold wCh; rw [if_neg (by omega)]; exact c2
    · have hb := (hT.2.2 (k + s) (by omega)).1
      rw [hk, nI_add, cl_nI (by omega), hb]
      refine ⟨in_nI (by omega) (by decide), fun c2 => bad (fun k => c2 ?_), fun c2 => good ?_⟩
      · unfold wCh at k; rw [if_pos (by omega)] at k; exact k
      · unfold wCh; rw [if_pos (by omega)]; exact c2
