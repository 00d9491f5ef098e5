/-! ===== the class's survey: going through all ===== -/
def seg (B R : Nat) (L T : Nat → Nat → Int) (rm : Nat → Nat) (n c : Nat) : List Nat := (List.range' c (5 ^ n)).filter (hp B R L T rm)
def sg (B R : Nat) (L T : Nat → Nat → Int) (rm : Nat → Nat) (n c : Nat) : Nat → List Nat
  | 0 => []
  | k + 1 => sg B R L T rm n c k ++ seg B R L T rm n (c + k * 5 ^ n)
theorem sg_s {B R : Nat} {L T : Nat → Nat → Int} {rm : Nat → Nat} {n c : Nat} (k : Nat) : sg B R L T rm n c (k + 1) = sg B R L T rm n c k ++ seg B R L T rm n (c + k * 5 ^ n) := rfl
theorem sg_eq {B R : Nat} {L T : Nat → Nat → Int} {rm : Nat → Nat} {n c : Nat} : ∀ k, sg B R L T rm n c k = (List.range' c (k * 5 ^ n)).filter (hp B R L T rm)
  | 0 => by simp [sg]
  | k + 1 => by
    simp only [sg, sg_eq k, seg]
    rw [← List.filter_append, List.range'_append_1, Nat.add_mul, Nat.one_mul]
theorem seg_s {B R : Nat} {L T : Nat → Nat → Int} {rm : Nat → Nat} {n c : Nat} : seg B R L T rm (n + 1) c = sg B R L T rm n c 5 := by
  rw [sg_eq, seg, Nat.pow_succ, Nat.mul_comm]
theorem seg_all {B R : Nat} {L T : Nat → Nat → Int} {rm : Nat → Nat} : seg B R L T rm B 0 = hl B R L T rm (5 ^ B) := by
  rw [seg, hl, List.range_eq_range']
theorem seg_nil {B R : Nat} {L T : Nat → Nat → Int} {rm : Nat → Nat} {n c : Nat} (h : ∀ x, x < 5 ^ n → hp B R L T rm (c + x) = false) : seg B R L T rm n c = [] := by
  rw [seg, List.filter_eq_nil_iff]
  intro y hy
  rw [List.mem_range'_1] at hy
  have := h (y - c) (by omega)
  rw [show c + (y - c) = y by omega] at this
  rw [this]
  decide
theorem seg_0 {B R : Nat} {L T : Nat → Nat → Int} {rm : Nat → Nat} {c : Nat} : seg B R L T rm 0 c = if hp B R L T rm c = true then [c] else [] := by
  rw [seg, Nat.pow_zero, List.range'_one]
  by_cases q : hp B R L T rm c = true
  · simp [q]
  · simp [q]
theorem seg_len {B R : Nat} {L T : Nat → Nat → Int} {rm : Nat → Nat} {n c : Nat} : (seg B R L T rm n c).length ≤ 5 ^ n := by
  rw [seg]
  exact Nat.le_trans (List.length_filter_le _ _) (by rw [List.length_range']; exact Nat.le_refl _)
/-- the digits from n on are the same -/
theorem dig_top {n c x b : Nat} (hc : c % 5 ^ n = 0) (hx : x < 5 ^ n) (hb : n ≤ b) : chW (c + x) b = chW c b := by
  have hp : 0 < 5 ^ n := Nat.pow_pos (by decide)
  obtain ⟨k, rfl⟩ : ∃ k, c = 5 ^ n * k := ⟨c / 5 ^ n, by have := Nat.div_add_mod c (5 ^ n); omega⟩
  obtain ⟨j, rfl⟩ : ∃ j, b = n + j := ⟨b - n, by omega⟩
  unfold chW
  rw [Nat.pow_add, ← Nat.div_div_eq_div_mul, ← Nat.div_div_eq_div_mul, Nat.mul_add_div hp, Nat.div_eq_of_lt hx, Nat.mul_div_cancel_left _ hp, Nat.add_zero]
theorem chW_put {n c r : Nat} (hc : c % 5 ^ (n + 1) = 0) (hr : r < 4) : chW (c + (r + 1) * 5 ^ n) = fun i => if i = n then some r else chW c i := by
  have hpn : 0 < 5 ^ n := Nat.pow_pos (by decide)
  funext i
  by_cases q : i = n
  · subst q
    obtain ⟨k, rfl⟩ : ∃ k, c = 5 ^ (i + 1) * k := ⟨c / 5 ^ (i + 1), by have := Nat.div_add_mod c (5 ^ (i + 1)); omega⟩
    simp only [if_true, chW]
    rw [Nat.add_mul_div_right _ _ hpn, Nat.pow_succ, Nat.mul_assoc, Nat.mul_div_cancel_left _ hpn, Nat.mul_add_mod, Nat.mod_eq_of_lt (by omega)]
    rfl
  · simp only [q, if_false]
    by_cases q2 : i < n
    · unfold chW; rw [dig_add q2]
    · refine dig_top hc ?_ (by omega)
      rw [Nat.pow_succ, Nat.mul_comm]
      exact Nat.mul_lt_mul_of_pos_left (by omega) hpn
theorem chW_low {n c b : Nat} (hc : c % 5 ^ n = 0) (hb : b < n) : chW c b = none := by
  obtain ⟨k, rfl⟩ : ∃ k, c = 5 ^ n * k := ⟨c / 5 ^ n, by have := Nat.div_add_mod c (5 ^ n); omega⟩
  obtain ⟨j, rfl⟩ : ∃ j, n = b + (j + 1) := ⟨n - b - 1, by omega⟩
  unfold chW
  rw [Nat.pow_add, Nat.mul_assoc, Nat.mul_div_cancel_left _ (Nat.pow_pos (by decide)), Nat.pow_succ, Nat.mul_comm (5 ^ j), Nat.mul_assoc, Nat.mul_mod_right]
  rfl
theorem mod_pow {c n k : Nat} (h : c % 5 ^ (n + 1) = 0) : (c + k * 5 ^ n) % 5 ^ n = 0 := by
  rw [Nat.add_mul_mod_self_right]
  obtain ⟨j, rfl⟩ : ∃ j, c = 5 ^ (n + 1) * j := ⟨c / 5 ^ (n + 1), by have := Nat.div_add_mod c (5 ^ (n + 1)); omega⟩
  rw [Nat.pow_succ, Nat.mul_assoc, Nat.mul_mod_right]
/-- where the survey stands: becks from n on are placed as c tells -/
def PlS (mi : TMi) (a : Ln) (d : Dt) (n c : Nat) : Prop := c % 5 ^ n = 0 ∧ c + 5 ^ n ≤ 5 ^ nB a ∧ (∀ b, n ≤ b → b < nB a → mi 64 b = oI (chW c b)) ∧ (∀ r, r < 4 → mi 65 r = nI (cnt (inn (chW c) r) (nB a))) ∧ (∀ b r, chW c b = some r → r < nR a) ∧ ∀ r, r < nR a → cnt (inn (chW c) r) (nB a) ≤ dR d r
theorem hp_dig {B R : Nat} {L T : Nat → Nat → Int} {rm : Nat → Nat} {c : Nat} (hB6 : B ≤ 6) (hc : c < 5 ^ B) (h : ¬ Stb B R L T rm (chW c)) : hp B R L T rm c = false := by
  cases e : hp B R L T rm c
  · rfl
  · exact absurd ((hp_iff hB6 hc).mp e) h
theorem c_Sv_placeFrom {l : Launch} {ml : TMl} {a : Ln} {d : Dt} {w : Int32} {be wo : Nat → Option Nat} (hbe : BestA a d be) (hwo : WorstA a d wo) : ∀ (n : Nat) {h : Nat} {mi : TMi} {c : Nat} {ls : List Nat} {Q : TMi → TMl → Nat → Prop}, n ≤ nB a → CA mi a d → (∀ b, b < nB a → mi 63 b = nI (enc (opn a d be wo b) (nR a))) → PlS mi a d n c → SurS mi a d w ls → ls.length + 5 ^ n < 20000 →
    (∀ mi', Fr [60, 64, 65, 66, 67] mi mi' → (∀ b, n ≤ b → mi' 64 b = mi 64 b) → (∀ r, r < 4 → mi' 65 r = mi 65 r) → SurS mi' a d w (ls ++ seg (nB a) (nR a) (lkD a d) (tkD a d) (dR d) n c) → Q mi' ml 17) → CV l (h + n + 6) m_Sv_placeFrom [.ref 60, .int (nI n - 1)] mi ml 17 Q := by
  intro n
  induction n with
  | zero =>
    intro h mi c ls Q hn hA ho hp hs hls hq
    obtain ⟨p1, p2, p3, p4, p5, p6⟩ := hp
    have ha := hA.1
    have hB6 := ha.1
    rw [Nat.pow_zero] at p2 hls
    have hiw : isW (mi 64) (nB a) (nR a) (chW c) := fun b hb => ⟨p3 b (Nat.zero_le _) hb, fun r e => p5 b r e⟩
    have hhp : hp (nB a) (nR a) (lkD a d) (tkD a d) (dR d) c = heldS (nB a) (nR a) (lkD a d) (tkD a d) (dR d) (chW c) := by
      rw [Bool.eq_iff_iff, hp_iff hB6 (by omega)]
      exact (Stb_iff (fun b r _ e => p5 b r e) p6).symm
    refine t_Sv_placeFrom mi ml _ ⟨fun c => absurd c (by decide), fun _ => c_Sc_isHeld_17 (lw := 6) rfl (by decide) hA.2.2.1.1 hB6 hA.2.2.1.2.1 ha.2.1 hA.2.2.2.2 hiw hA.rm ⟨rfl, ?_⟩⟩
    rw [bI_0, ← hhp]
    rw [seg_0] at hq
    refine ⟨fun q => ?_, fun q => ?_⟩
    · rw [q] at hq
      refine hq mi (Fr.refl _ _) (fun _ _ => rfl) (fun _ _ => rfl) ?_
      simpa using hs
    · rw [Bool.not_eq_false] at q
      rw [if_pos q] at hq
      exact c_Sv_weigh hA hiw (by omega) hs (by omega) (fun m' F' hs' => ⟨rfl, hq m' (F'.weak (by simp)) (fun b _ => by rw [F' 64 (by decide)]) (fun r _ => by rw [F' 65 (by decide)]) hs'⟩)
  | succ n ih =>
    intro h mi c ls Q hn hA ho hp hs hls hq
    have hp0 := hp
    obtain ⟨p1, p2, p3, p4, p5, p6⟩ := hp
    have ha := hA.1
    have hB6 := ha.1
    have hR4 := ha.2.1
    have hin : vp_in (nI n) 6 := in_nI (by omega) (by decide)
    have hp5 : 5 ^ (n + 1) = 5 * 5 ^ n := by rw [Nat.pow_succ, Nat.mul_comm]
    have hcn : chW c n = none := chW_low p1 (by omega)
    have hle : ∀ k, k ≤ 4 → c + k * 5 ^ n + 5 ^ n ≤ 5 ^ nB a := fun k hk => by
      have : k * 5 ^ n ≤ 4 * 5 ^ n := Nat.mul_le_mul_right _ hk
      omega
    have hdig : ∀ k x, k ≤ 4 → x < 5 ^ n → chW (c + k * 5 ^ n + x) n = undg k := fun k x hk hx => by
      rw [dig_top (mod_pow p1) hx (Nat.le_refl _)]
      cases k with
      | zero => rw [Nat.zero_mul, Nat.add_zero, hcn]; rfl
      | succ r => rw [chW_put p1 (by omega)]; simp [undg]
    have enil : ∀ k, k ≤ 4 → (∀ mu, Stb (nB a) (nR a) (lkD a d) (tkD a d) (dR d) mu → ¬ mu n = undg k) → seg (nB a) (nR a) (lkD a d) (tkD a d) (dR d) n (c + k * 5 ^ n) = [] := fun k hk hno => seg_nil (fun x hx => by
      have h1 := hle k hk
      refine hp_dig hB6 (by omega) (fun hst => hno _ hst (hdig k x hk hx)))
    have hbn : n < nB a := by omega
    rw [sub1 (show 0 < n + 1 by omega) (by omega), Nat.add_sub_cancel]
    refine t_Sv_placeFrom mi ml _ ⟨fun _ => ⟨hin, ?_⟩, fun q => absurd ((nI_leI (a := 0) (b := n) (by decide) (by omega)).mpr (Nat.zero_le _)) q⟩
    rw [cl_nI (show n < 2 ^ 31 by omega), ho n hbn]
    have hopn : ∀ mu r, Stb (nB a) (nR a) (lkD a d) (tkD a d) (dR d) mu → mu n = some r → opn a d be wo n r = true ∧ r < nR a := fun mu r hmu e => by
      have hr := hmu.1 n r hbn e
      rcases hold_bd hR4 hbe hwo hmu n hbn with k | ⟨r', r1, r2, k1, k2, k3, k4, k5⟩
      · rw [k.1] at e; cases e
      · rw [k1] at e
        cases e
        refine ⟨?_, hr.1⟩
        simp only [opn, k2, k3, hr.2, Bool.true_and, Bool.and_eq_true, Bool.not_eq_true', decide_eq_false_iff_not]
        omega
    have e16 := enc_lt (opn a d be wo n) (nR a)
    have e16' : enc (opn a d be wo n) (nR a) < 16 := Nat.lt_of_lt_of_le e16 (pow16 hR4)
    refine ⟨fun q => ?_, fun q => ⟨hin, ?_⟩⟩
    · have qe : ¬ enc (opn a d be wo n) (nR a) = 0 := fun k => q (by rw [k]; rfl)
      have hmu0 : ∀ mu, Stb (nB a) (nR a) (lkD a d) (tkD a d) (dR d) mu → ¬ mu n = none := fun mu hmu k0 => by
        rcases hold_bd hR4 hbe hwo hmu n hbn with k | ⟨r', r1, r2, k1, k2, k3, k4, k5⟩
        · exact qe (enc_zero.mpr (fun r _ => by simp [opn, k.2.1]))
        · rw [k1] at k0; cases k0
      refine loop (P := fun i => ∀ m, Fr [60, 64, 65, 66, 67] mi m → (∀ b, n + 1 ≤ b → m 64 b = mi 64 b) → (∀ r, r < 4 → m 65 r = mi 65 r) → SurS m a d w (ls ++ sg (nB a) (nR a) (lkD a d) (tkD a d) (dR d) n c (i + 1)) → Ev l (h + (n + 1) + 6) m_Sv_placeFrom 49 ([.ref 60, .int (nI n), .int (nI i)], [], st m ml 17) (qV Q)) (nR a) (fun m F h4 h5 hs' => ?_) (fun i hi ihi m F h4 h5 hs' => ?_) mi (Fr.refl _ _) (fun _ _ => rfl) (fun _ _ => rfl) ?_
      · have hAm : CA m a d := hA.of F (by simp)
        refine t_Sv_placeFrom_49 m ml _ _ ⟨fun _ => hq m F h4 h5 ?_, fun c => absurd (le_at hAm.2.2.1.2.1 (by omega)) c⟩
        have : ∀ k, nR a + 1 + k ≤ 5 → sg (nB a) (nR a) (lkD a d) (tkD a d) (dR d) n c (nR a + 1 + k) = sg (nB a) (nR a) (lkD a d) (tkD a d) (dR d) n c (nR a + 1) := fun k => by
          induction k with
          | zero => intro _; rfl
          | succ k ihk =>
            intro hk
            rw [show nR a + 1 + (k + 1) = (nR a + 1 + k) + 1 by omega, sg_s (nR a + 1 + k), ihk (by omega), enil (nR a + 1 + k) (by omega) (fun mu hmu e => by
              rw [show nR a + 1 + k = (nR a + k) + 1 by omega] at e
              have := (hopn mu _ hmu e).2
              omega), List.append_nil]
        have e5 := this (4 - nR a) (by omega)
        rw [show nR a + 1 + (4 - nR a) = 5 by omega] at e5
        rw [seg_s, e5]
        exact hs'
      · have hAm : CA m a d := hA.of F (by simp)
        have hin4 : vp_in (nI i) 4 := in_nI (by omega) (by decide)
        have skip : (∀ mu, Stb (nB a) (nR a) (lkD a d) (tkD a d) (dR d) mu → (∀ b, n + 1 ≤ b → b < nB a → mu b = chW c b) → ¬ mu n = some i) → Ev l (h + (n + 1) + 6) m_Sv_placeFrom 49 ([.ref 60, .int (nI n), .int (nI i + 1)], [], st m ml 17) (qV Q) := fun hno => by
          rw [nI_1]
          refine ihi m F h4 h5 ?_
          have : seg (nB a) (nR a) (lkD a d) (tkD a d) (dR d) n (c + (i + 1) * 5 ^ n) = [] := seg_nil (fun x hx => by
            have h1 := hle (i + 1) (by omega)
            refine hp_dig hB6 (by omega) (fun hst => hno _ hst (fun b hb1 hb2 => ?_) (hdig (i + 1) x (by omega) hx))
            rw [dig_top (mod_pow p1) hx (by omega), chW_put p1 (by omega)]
            simp [show ¬ b = n by omega])
          simp only [sg] at hs' ⊢
          rw [this, List.append_nil]
          exact hs'
        refine t_Sv_placeFrom_49 m ml _ _ ⟨fun c => absurd c (ge_no hAm.2.2.1.2.1 (by omega) hi), fun _ => ⟨hin, ?_⟩⟩
        rw [cl_nI (show n < 2 ^ 31 by omega), cl_nI (show i < 2 ^ 31 by omega), F 63 (by decide), ho n hbn, sr_tbR _ e16' i (by omega), enc_tb _ _ i hi]
        refine ⟨fun q1 => skip (fun mu hmu _ e => by rw [(hopn mu i hmu e).1] at q1; cases q1), fun q1 => ⟨hin4, t_Sc_roomOf_17 _ _ _ _ ⟨in_addL (a := 12) (by omega) (by decide), rfl, ?_⟩⟩⟩
        rw [addL_cl 12 i (by omega), (hAm.rm i hi).1, h5 i (by omega), p4 i (by omega)]
        have hcl := cnt_le (inn (chW c) i) (nB a)
        have hr6 := (hAm.rm i hi).2
        rw [nI_leI (by omega) (by omega)]
        have hput := chW_put (n := n) (c := c) (r := i) p1 (by omega)
        have hca := cnt_add (wo := chW c) (b := n) (r := i) (B := nB a) hbn (by rw [hcn]; simp)
        refine ⟨fun q2 => skip (fun mu hmu hsame e => ?_), fun q2 => ⟨hin, hin4, hin4, ?_⟩⟩
        · have h1 := hmu.2.1 i hi
          have h2 : cnt (inn (fun j => if j = n then some i else chW c j) i) (nB a) ≤ cnt (inn mu i) (nB a) := cnt_mono (fun b hb hbi => by
            by_cases k : b = n
            · subst k; simp [inn, e]
            · simp [inn, k] at hbi
              by_cases k2 : b < n
              · rw [chW_low p1 (by omega)] at hbi; cases hbi
              · simp [inn, hsame b (by omega) hb, hbi])
          omega
        · rw [up_ne _ _ _ (show 65 ≠ 64 by decide), h5 i (by omega), p4 i (by omega), nI_1, ← hca, ← hput]
          have F1 : Fr [60, 64, 65, 66, 67] m (up (up m 64 n (nI i)) 65 i (nI (cnt (inn (chW (c + (i + 1) * 5 ^ n)) i) (nB a)))) := ((Fr_up _ _ _ _).weak (by simp)).step ((Fr_up _ _ _ _).weak (by simp))
          have g64 : ∀ b, (up (up m 64 n (nI i)) 65 i (nI (cnt (inn (chW (c + (i + 1) * 5 ^ n)) i) (nB a)))) 64 b = if b = n then nI i else m 64 b := fun b => by
            rw [up_ne _ _ _ (by decide)]
            by_cases k : b = n
            · subst k; rw [up_at, if_pos rfl]
            · rw [up_nk _ _ _ k, if_neg k]
          have g65 : ∀ r, (up (up m 64 n (nI i)) 65 i (nI (cnt (inn (chW (c + (i + 1) * 5 ^ n)) i) (nB a)))) 65 r = if r = i then nI (cnt (inn (chW (c + (i + 1) * 5 ^ n)) i) (nB a)) else m 65 r := fun r => by
            by_cases k : r = i
            · subst k; rw [up_at, if_pos rfl]
            · rw [up_nk _ _ _ k, if_neg k, up_ne _ _ _ (by decide)]
          have hs1 : SurS (up (up m 64 n (nI i)) 65 i (nI (cnt (inn (chW (c + (i + 1) * 5 ^ n)) i) (nB a)))) a d w (ls ++ sg (nB a) (nR a) (lkD a d) (tkD a d) (dR d) n c (i + 1)) := by
            obtain ⟨s1, s2, s3, s4, s5, s6, s7⟩ := hs'
            have e60 : (up (up m 64 n (nI i)) 65 i (nI (cnt (inn (chW (c + (i + 1) * 5 ^ n)) i) (nB a)))) 60 = m 60 := by rw [up_ne _ _ _ (by decide), up_ne _ _ _ (by decide)]
            have e66 : (up (up m 64 n (nI i)) 65 i (nI (cnt (inn (chW (c + (i + 1) * 5 ^ n)) i) (nB a)))) 66 = m 66 := by rw [up_ne _ _ _ (by decide), up_ne _ _ _ (by decide)]
            have e67 : (up (up m 64 n (nI i)) 65 i (nI (cnt (inn (chW (c + (i + 1) * 5 ^ n)) i) (nB a)))) 67 = m 67 := by rw [up_ne _ _ _ (by decide), up_ne _ _ _ (by decide)]
            exact ⟨by rw [e60]; exact s1, by rw [e60]; exact s2, by rw [e60]; exact s3, fun b hb => by rw [e66]; exact s4 b hb, fun r hr => by rw [e67]; exact s5 r hr, by rw [e60]; exact s6, by rw [e60]; exact s7⟩
          generalize up (up m 64 n (nI i)) 65 i (nI (cnt (inn (chW (c + (i + 1) * 5 ^ n)) i) (nB a))) = m1 at F1 g64 g65 hs1 ⊢
          have hA1 : CA m1 a d := hAm.of F1 (by simp)
          have hpl : PlS m1 a d n (c + (i + 1) * 5 ^ n) := by
            refine ⟨mod_pow p1, hle (i + 1) (by omega), fun b hb1 hb2 => ?_, fun r hr => ?_, fun b r e => ?_, fun r hr => ?_⟩
            · rw [g64, hput]
              by_cases k : b = n
              · rw [if_pos k]; simp only [k, if_true]; rfl
              · rw [if_neg k]; simp only [k, if_false]; rw [h4 b (by omega)]; exact p3 b (by omega) hb2
            · rw [g65]
              by_cases k : r = i
              · subst k; rw [if_pos rfl]
              · rw [if_neg k, h5 r hr, p4 r hr, hput, inn_ne hcn k]
            · rw [hput] at e
              by_cases k : b = n
              · simp only [k, if_true] at e; cases e; exact hi
              · simp only [k, if_false] at e; exact p5 b r e
            · rw [hput]
              by_cases k : r = i
              · subst k; rw [hca]; omega
              · rw [inn_ne hcn k]; exact p6 r hr
          have hsl : (sg (nB a) (nR a) (lkD a d) (tkD a d) (dR d) n c (i + 1)).length ≤ (i + 1) * 5 ^ n := by
            rw [sg_eq]
            exact Nat.le_trans (List.length_filter_le _ _) (by rw [List.length_range']; exact Nat.le_refl _)
          have hi4 : (i + 1) * 5 ^ n ≤ 4 * 5 ^ n := Nat.mul_le_mul_right _ (by omega)
          have := ih (h := h) (mi := m1) (c := c + (i + 1) * 5 ^ n) (ls := ls ++ sg (nB a) (nR a) (lkD a d) (tkD a d) (dR d) n c (i + 1)) (Q := fun mi10 ml10 z10 => z10 = 17 ∧ (vp_in (nI i) 4) ∧ (vp_in (nI i) 4) ∧ Ev l (h + (n + 1) + 6) m_Sv_placeFrom 49 ([.ref 60, .int (nI n), .int (nI i + 1)], [], st (up mi10 65 i ((mi10 65 i) - 1)) ml10 17) (qV Q)) (by omega) hA1 (fun b hb => by rw [F1 63 (by decide), F 63 (by decide)]; exact ho b hb) hpl hs1 (by rw [List.length_append]; omega) (fun m2 F2 k4 k5 hs2 => ⟨rfl, hin4, hin4, ?_⟩)
          · exact this
          · rw [nI_1, k5 i (by omega), g65, if_pos rfl, hput, hca, sub1 (by omega) (by omega), Nat.add_sub_cancel]
            refine ihi _ (((F.step F1).step F2).step ((Fr_up _ _ _ _).weak (by simp))) (fun b hb => ?_) (fun r hr => ?_) ?_
            · rw [up_ne _ _ _ (by decide), k4 b (by omega), g64, if_neg (by omega)]; exact h4 b hb
            · by_cases k : r = i
              · subst k; rw [up_at, p4 r hr]
              · rw [up_nk _ _ _ k, k5 r hr, g65, if_neg k]; exact h5 r hr
            · obtain ⟨s1, s2, s3, s4, s5, s6, s7⟩ := hs2
              rw [List.append_assoc] at s1 s2 s3 s4 s5 s7
              exact ⟨by rw [up_ne _ _ _ (by decide)]; exact s1, by rw [up_ne _ _ _ (by decide)]; exact s2, by rw [up_ne _ _ _ (by decide)]; exact s3, fun b hb => by rw [up_ne _ _ _ (by decide)]; exact s4 b hb, fun r hr => by rw [up_ne _ _ _ (by decide)]; exact s5 r hr, by rw [up_ne _ _ _ (by decide)]; exact s6, by rw [up_ne _ _ _ (by decide)]; exact s7⟩
      · have : seg (nB a) (nR a) (lkD a d) (tkD a d) (dR d) n (c + 0 * 5 ^ n) = [] := enil 0 (by omega) (fun mu hmu e => hmu0 mu hmu e)
        simp only [sg, this, List.append_nil]
        exact hs
    · have qe : enc (opn a d be wo n) (nR a) = 0 := nI_inj (by omega) (by decide) q
      have hno : ∀ mu r, Stb (nB a) (nR a) (lkD a d) (tkD a d) (dR d) mu → ¬ mu n = some r := fun mu r hmu e => by
        have := hopn mu r hmu e
        rw [enc_zero.mp qe r this.2] at this
        cases this.1
      have eall : seg (nB a) (nR a) (lkD a d) (tkD a d) (dR d) (n + 1) c = seg (nB a) (nR a) (lkD a d) (tkD a d) (dR d) n c := by
        rw [seg_s]
        simp only [sg]
        rw [enil 1 (by omega) (fun mu hmu e => hno mu 0 hmu e), enil 2 (by omega) (fun mu hmu e => hno mu 1 hmu e), enil 3 (by omega) (fun mu hmu e => hno mu 2 hmu e), enil 4 (by omega) (fun mu hmu e => hno mu 3 hmu e)]
        simp
      rw [eall] at hq
      have F1 : Fr [60, 64, 65, 66, 67] mi (up mi 64 n (-1)) := (Fr_up _ _ _ _).weak (by simp)
      have hA1 : CA (up mi 64 n (-1)) a d := hA.of F1 (by simp)
      have h65 : (up mi 64 n (-1)) 65 = mi 65 := up_ne _ _ _ (by decide)
      have hs1 : SurS (up mi 64 n (-1)) a d w ls := by
        obtain ⟨s1, s2, s3, s4, s5, s6, s7⟩ := hs
        exact ⟨by rw [up_ne _ _ _ (by decide)]; exact s1, by rw [up_ne _ _ _ (by decide)]; exact s2, by rw [up_ne _ _ _ (by decide)]; exact s3, fun b hb => by rw [up_ne _ _ _ (by decide)]; exact s4 b hb, fun r hr => by rw [up_ne _ _ _ (by decide)]; exact s5 r hr, by rw [up_ne _ _ _ (by decide)]; exact s6, by rw [up_ne _ _ _ (by decide)]; exact s7⟩
      have g64 : ∀ b, ¬ b = n → (up mi 64 n (-1)) 64 b = mi 64 b := fun b k => up_nk _ _ _ k
      have g64n : (up mi 64 n (-1)) 64 n = -1 := up_at _ _ _ _
      have h63 : (up mi 64 n (-1)) 63 = mi 63 := up_ne _ _ _ (by decide)
      generalize up mi 64 n (-1) = m1 at F1 hA1 h65 hs1 g64 g64n h63 ⊢
      refine ih (h := h) (c := c) (ls := ls) (by omega) hA1 (fun b hb => by rw [h63]; exact ho b hb) ⟨by have := mod_pow (k := 0) p1; rwa [Nat.zero_mul, Nat.add_zero] at this, by have := hle 0 (by omega); omega, fun b hb1 hb2 => ?_, fun r hr => by rw [h65]; exact p4 r hr, p5, p6⟩ hs1 (by omega) (fun m2 F2 k4 k5 hs2 => ⟨rfl, hq m2 (F1.step F2) (fun b hb => by rw [k4 b (by omega), g64 b (by omega)]) (fun r hr => by rw [k5 r hr, h65]) hs2⟩)
      by_cases k : b = n
      · subst k; rw [g64n, hcn]; rfl
      · rw [g64 b k]; exact p3 b (by omega) hb2
