/-! ===== the class's match: what its rows hold ===== -/
theorem set6 : ∀ m, m < 64 → ∀ r, r < 6 → nI m ||| ((1 : Int32) <<< (nI r &&& 31)) = nI (if tb m r = true then m else m + 2 ^ r) := by decide +kernel
theorem set6_tb : ∀ m, m < 64 → ∀ r, r < 6 → ∀ r', r' < 6 → tb (if tb m r = true then m else m + 2 ^ r) r' = (tb m r' || decide (r' = r)) := by decide +kernel
theorem set6_lt : ∀ R, R < 7 → ∀ m, m < 2 ^ R → ∀ r, r < R → (if tb m r = true then m else m + 2 ^ r) < 2 ^ R := by decide +kernel
theorem enc_set {p : Nat → Bool} {B m : Nat} (hB : B ≤ 6) (hm : m < B) : nI (enc p B) ||| ((1 : Int32) <<< (nI m &&& 31)) = nI (enc (fun b => p b || decide (b = m)) B) := by
  have h64 := enc_64 p hB
  rw [set6 _ h64 m (by omega)]
  congr 1
  refine enc_of (set6_lt B (by omega) _ (enc_lt p B) m hm) (fun r hr => ?_)
  rw [set6_tb _ h64 m (by omega) r (by omega), enc_tb p B r hr]
def MaS (mi : TMi) (B n : Nat) (wo : Nat → Option Nat) (A : Nat → Nat → Bool) : Prop := (∀ b, b < 6 → mi 56 b = oI (wo b)) ∧ (∀ r, r < 4 → mi 57 r = nI (enc (inn wo r) B) ∧ mi 58 r = nI (cnt (inn wo r) B)) ∧ ∀ k, k < 6 → mi 59 k = nI (enc (A k) n)
theorem enc_none : ∀ {n : Nat}, enc (fun _ => false) n = 0
  | 0 => rfl
  | n + 1 => by simp only [enc]; exact enc_none
theorem cnt_none : ∀ {n : Nat}, cnt (fun _ => false) n = 0
  | 0 => rfl
  | n + 1 => by simp only [cnt]; exact cnt_none
theorem c_Ma_clear {l : Launch} {h : Nat} {mi : TMi} {ml : TMl} {z : Nat} {B n : Nat} {Q : TMi → TMl → Nat → Prop} (hq : ∀ mi', Fr [56, 57, 58, 59] mi mi' → MaS mi' B n (fun _ => none) (fun _ _ => false) → Q mi' ml z) : CV l (h + 1) m_Ma_clear [.ref 55] mi ml z Q := by
  refine t_Ma_clear mi ml z ?_
  refine loop (P := fun i => ∀ m, Fr [56, 57, 58, 59] mi m → (∀ k, k < i → m 56 k = -1 ∧ m 59 k = 0) → Ev l (h + 1) m_Ma_clear 2 ([.ref 55, .int (nI i)], [], st m ml z) (qV Q)) 6 (fun m F hk => ?_) (fun i hi ih m F hk => ?_) mi (Fr.refl _ _) (fun k hk => absurd hk (Nat.not_lt_zero _))
  · refine t_Ma_clear_2 m ml z _ ⟨fun _ => ?_, fun c => absurd (by decide) c⟩
    refine loop (P := fun i => ∀ m, Fr [56, 57, 58, 59] mi m → (∀ k, k < 6 → m 56 k = -1 ∧ m 59 k = 0) → (∀ k, k < i → m 57 k = 0 ∧ m 58 k = 0) → Ev l (h + 1) m_Ma_clear 30 ([.ref 55, .int (nI i)], [], st m ml z) (qV Q)) 4 (fun m F hk hk2 => ?_) (fun i hi ih m F hk hk2 => ?_) m F hk (fun k hk => absurd hk (Nat.not_lt_zero _))
    · refine t_Ma_clear_30 m ml z _ ⟨fun _ => hq m F ⟨fun b hb => (hk b hb).1, fun r hr => ?_, fun k hk' => ?_⟩, fun c => absurd (by decide) c⟩
      · have e : inn (fun _ => none) r = fun _ => false := by funext x; simp [inn]
        rw [e, enc_none, cnt_none]
        exact hk2 r hr
      · rw [enc_none]; exact (hk k hk').2
    · refine t_Ma_clear_30 m ml z _ ⟨fun c => absurd c (ge_no (N := 4) rfl (by decide) hi), fun _ => ⟨in_nI hi (by decide), in_nI hi (by decide), ?_⟩⟩
      rw [cl_nI (by omega), nI_1]
      refine ih _ (F.step (((Fr_up _ _ _ _).weak (by simp)).step ((Fr_up _ _ _ _).weak (by simp)))) (fun k hk' => ?_) (fun k hk' => ?_)
      · rw [up_ne _ _ _ (by decide), up_ne _ _ _ (by decide), up_ne _ _ _ (by decide), up_ne _ _ _ (by decide)]; exact hk k hk'
      · rw [up_ne _ _ _ (show 57 ≠ 58 by decide)]
        by_cases q : k = i
        · subst q; rw [up_at, up_at]; exact ⟨rfl, rfl⟩
        · rw [up_nk _ _ _ q, up_nk _ _ _ q, up_ne _ _ _ (show 58 ≠ 57 by decide)]; exact hk2 k (by omega)
  · refine t_Ma_clear_2 m ml z _ ⟨fun c => absurd c (ge_no (N := 6) rfl (by decide) hi), fun _ => ⟨in_nI hi (by decide), in_nI hi (by decide), ?_⟩⟩
    rw [cl_nI (by omega), nI_1]
    refine ih _ (F.step (((Fr_up _ _ _ _).weak (by simp)).step ((Fr_up _ _ _ _).weak (by simp)))) (fun k hk' => ?_)
    rw [up_ne _ _ _ (show 56 ≠ 59 by decide)]
    by_cases q : k = i
    · subst q; rw [up_at, up_at]; exact ⟨rfl, rfl⟩
    · rw [up_nk _ _ _ q, up_nk _ _ _ q, up_ne _ _ _ (show 59 ≠ 56 by decide)]; exact hk k (by omega)
theorem c_Ma_comeIn {l : Launch} {h : Nat} {mi : TMi} {ml : TMl} {z : Nat} {B n b r : Nat} {wo : Nat → Option Nat} {A : Nat → Nat → Bool} {Q : TMi → TMl → Nat → Prop} (hB6 : B ≤ 6) (hs : MaS mi B n wo A) (hb : b < B) (hr : r < 4) (hn : wo b = none)
    (hq : ∀ mi', Fr [56, 57, 58] mi mi' → MaS mi' B n (fun i => if i = b then some r else wo i) A → Q mi' ml z) : CV l (h + 1) m_Ma_comeIn [.ref 55, .int (nI b), .int (nI r)] mi ml z Q := by
  obtain ⟨h1, h2, h3⟩ := hs
  refine t_Ma_comeIn mi ml z _ _ ?_
  rw [cl_nI (show b < 2 ^ 31 by omega), cl_nI (show r < 2 ^ 31 by omega)]
  have hin4 : vp_in (nI r) 4 := in_nI hr (by decide)
  have e57 : (up mi 56 b (nI r)) 57 r = nI (enc (inn wo r) B) := by rw [up_ne _ _ _ (by decide)]; exact (h2 r hr).1
  rw [e57, enc_set hB6 hb]
  have e58 : (up (up mi 56 b (nI r)) 57 r (nI (enc (fun x => inn wo r x || decide (x = b)) B))) 58 r = nI (cnt (inn wo r) B) := by rw [up_ne _ _ _ (by decide), up_ne _ _ _ (by decide)]; exact (h2 r hr).2
  rw [e58, nI_1, ← cnt_add (wo := wo) (r := r) hb (by rw [hn]; simp)]
  have ei : (fun x => inn wo r x || decide (x = b)) = inn (fun i => if i = b then some r else wo i) r := by
    funext x
    by_cases q : x = b
    · subst q; simp [inn]
    · simp [inn, q]
  rw [ei]
  refine ⟨in_nI (by omega) (by decide), hin4, hin4, hin4, hin4, hq _ ?_ ⟨fun b' hb' => ?_, fun r' hr' => ?_, fun k hk => ?_⟩⟩
  · exact (((Fr_up _ _ _ _).weak (by simp)).step ((Fr_up _ _ _ _).weak (by simp))).step ((Fr_up _ _ _ _).weak (by simp))
  · rw [up_ne _ _ _ (by decide), up_ne _ _ _ (by decide)]
    by_cases q : b' = b
    · subst q; rw [up_at]; simp [oI]
    · rw [up_nk _ _ _ q]; simp only [q, if_false]; exact h1 b' hb'
  · rw [up_ne _ _ _ (show 57 ≠ 58 by decide)]
    by_cases q : r' = r
    · subst q; rw [up_at, up_at]; exact ⟨rfl, rfl⟩
    · rw [up_nk _ _ _ q, up_nk _ _ _ q, up_ne _ _ _ (show 57 ≠ 56 by decide), up_ne _ _ _ (show 58 ≠ 57 by decide), up_ne _ _ _ (show 58 ≠ 56 by decide), inn_ne hn q]
      exact h2 r' hr'
  · rw [up_ne _ _ _ (by decide), up_ne _ _ _ (by decide), up_ne _ _ _ (by decide)]; exact h3 k hk
