/-! ===== woos of the class ===== -/
def Wth (a : Ln) (d : Dt) (r b : Nat) : Nat := enc (newB a d r b) (10 - dG d b r)
theorem Wth_lt {a : Ln} {d : Dt} {r : Nat} (b : Nat) : Wth a d r b < 1024 := Nat.lt_of_lt_of_le (enc_lt _ _) (Nat.pow_le_pow_right (show 2 > 0 by decide) (show 10 - dG d b r ≤ 10 by omega))
theorem Wth_pos {a : Ln} {d : Dt} {r b : Nat} (h : dG d b r ≤ 9) : 0 < Wth a d r b := by
  apply Nat.pos_of_ne_zero
  intro k
  have := enc_zero.mp k 0 (by omega)
  simp [newB, alln] at this
theorem new_of {a : Ln} {d : Dt} {r b k : Nat} (h : ∀ f, f < k → ¬ same a d r b k f) : newB a d r b k = true := alln_iff.mpr (fun f hf => by
  cases e : lvB a d r b k f
  · rfl
  · exact absurd (lvB_iff.mp e) (h f hf))
theorem no_success {a : Ln} {d : Dt} {r en : Nat} {e : (Nat → Nat) → Bool} {p : Nat → Bool} (ha : okLn a) (hr : r < nR a) (he : ∀ w, e w = true ↔ E a d r en w) (hp : ∀ b, b < nB a → ∀ k, k < 10 - dG d b r → ¬ rkL a d r b k = none → p b = true) (h9 : ∀ b, dG d b r ≤ 9)
    (hno : ∀ s, s < 2 ^ nB a → (∀ i, i < 6 → tb s i = true → p i = true) → pop6 s ≤ dR d r → ¬ en ≤ smn (fun b => tb s b) (dF d) (nB a)) (n : Nat) : fs e (fun b => dG d b r) (nB a) 0 n (fun _ => 0) = none := by
  cases q : fs e (fun b => dG d b r) (nB a) 0 n (fun _ => 0) with
  | none => rfl
  | some w =>
    exfalso
    obtain ⟨f1, f2, f3, f4⟩ := fs_some q
    obtain ⟨be, hb1, hb2⟩ := (he w).mp f4
    refine hno (enc (inn be r) (nB a)) (enc_lt _ _) (fun i hi ht => ?_) ?_ ?_
    · have hiB : i < nB a := by
        by_cases k : i < nB a
        · exact k
        · rw [enc_hi _ _ _ (by omega)] at ht; cases ht
      rw [enc_tb _ _ _ hiB] at ht
      have ht' : be i = some r := by simpa [inn] using ht
      have hw := (hb1.1.1 i r hiB ht').2
      have hv := f2 i (Nat.zero_le _) (by omega)
      have := h9 i
      refine hp i hiB (w i) (by omega) (fun k => ?_)
      have t1 : wdO (lkD a (gvD d r (fun _ => w i))) (tkD a (gvD d r (fun _ => w i))) i r = true := by
        rw [← hw]
        unfold wdO
        rw [(gv_w (a := a) (d := d) (r := r) (b := i) (y := r) (w := w) (w' := fun _ => w i) rfl).1, (gv_w (a := a) (d := d) (r := r) (b := i) (y := r) (w := w) (w' := fun _ => w i) rfl).2]
      unfold rkL at k
      rw [if_pos t1] at k
      cases k
    · rw [pop_enc _ ha.1]
      exact hb1.1.2.1 r hr
    · rw [smn_enc]
      exact hb2
theorem c_Wo_least {l : Launch} {h : Nat} {mi : TMi} {ml : TMl} {z : Nat} {a : Ln} {d : Dt} {r en : Nat} {e : (Nat → Nat) → Bool} {Q : Int32 → TMi → TMl → Nat → Prop} (hA : CA mi a d) (hr : r < nR a) (hen : en ≤ 99) (he : ∀ w, e w = true ↔ E a d r en w)
    (hq0 : wooN e a d r 10 = none → ∀ mi', Fr SC mi mi' → Q (-1) mi' ml z) (hq1 : ∀ n w, wooN e a d r 10 = some (n, w) → n < 10 → ∀ mi', Fr SC mi mi' → (∀ i, i < nB a → mi' 74 i = nI (w i)) → Q (nI n) mi' ml z) : CI l (h + 13) m_Wo_least [.ref 68, .ref 17, .int (nI r), .int (nI en)] mi ml z Q := by
  have ha := hA.1
  have hB6 := ha.1
  have hR4 := ha.2.1
  have h9 := fun b => hA.2.1.2.2.2.1 b r
  refine t_Wo_least mi ml z _ _ ?_
  have F0 : Fr SC mi (up (up mi 68 2 (nI r)) 68 3 (nI en)) := ((Fr_up _ _ _ _).weak (by simp)).step ((Fr_up _ _ _ _).weak (by simp))
  have a2 : (up (up mi 68 2 (nI r)) 68 3 (nI en)) 68 2 = nI r := by rw [up_nk _ _ _ (by decide), up_at]
  have a3 : (up (up mi 68 2 (nI r)) 68 3 (nI en)) 68 3 = nI en := up_at _ _ _ _
  generalize up (up mi 68 2 (nI r)) 68 3 (nI en) = m0 at F0 a2 a3 ⊢
  refine c_trial (hA.of F0 (by decide)) (fun m1 F1 hc1 hs1 => ?_)
  have F01 : Fr SC mi m1 := F0.step (F1.weak (by simp))
  have hA1 : CA m1 a d := hA.of F01 (by decide)
  have t1 : TrW m1 a d r (fun _ => 0) := ⟨hc1, by rw [gv_0]; exact hs1⟩
  rw [up_ne _ _ _ (show 18 ≠ 68 by decide), hA1.2.2.1.1, cl_nI (by omega), up_ne _ _ _ (show 18 ≠ 73 by decide), up_ne _ _ _ (show 18 ≠ 68 by decide), hA1.2.2.1.1]
  refine ⟨in_nI (by omega) (by decide), ?_⟩
  have F2 : Fr SC m1 (up (up m1 68 9 0) 73 (nB a) 0) := ((Fr_up _ _ _ _).weak (by simp)).step ((Fr_up _ _ _ _).weak (by simp))
  have t2 : TrW (up (up m1 68 9 0) 73 (nB a) 0) a d r (fun _ => 0) := t1.fr (fun n h1 h2 => by rw [up_ne _ _ _ (by omega), up_ne _ _ _ (by omega)])
  have b2 : (up (up m1 68 9 0) 73 (nB a) 0) 68 2 = nI r := by rw [up_ne _ _ _ (by decide), up_nk _ _ _ (by decide), F1 68 (by decide)]; exact a2
  have b3 : (up (up m1 68 9 0) 73 (nB a) 0) 68 3 = nI en := by rw [up_ne _ _ _ (by decide), up_nk _ _ _ (by decide), F1 68 (by decide)]; exact a3
  have b9 : (up (up m1 68 9 0) 73 (nB a) 0) 68 9 = nI (enc (fun _ => false) 6) := by rw [up_ne _ _ _ (by decide), up_at, enc_none]; rfl
  have b73 : (up (up m1 68 9 0) 73 (nB a) 0) 73 (nB a) = 0 := up_at _ _ _ _
  generalize up (up m1 68 9 0) 73 (nB a) 0 = m2 at F2 t2 b2 b3 b9 b73 ⊢
  have F02 : Fr SC mi m2 := F01.step F2
  refine loop (P := fun i => ∀ m w p, Fr SC mi m → m 68 2 = nI r → m 68 3 = nI en → TrW m a d r w → (∀ b, nB a - i ≤ b → b < nB a → WL m a d r b (10 - dG d b r) ∧ m 72 b = nI (Wth a d r b)) → (∀ b, nB a - i ≤ b → b ≤ nB a → m 73 b = nI (mfw (Wth a d r) b (nB a - b))) → m 68 9 = nI (enc p 6) → (∀ b, nB a - i ≤ b → b < nB a → ∀ k, k < 10 - dG d b r → ¬ rkL a d r b k = none → p b = true) → Ev l (h + 13) m_Wo_least 53 ([.ref 68, .retAddr 0, .retAddr 0, .retAddr 0, .int (nI (nB a - i) - 1)], [], st m ml z) (qI Q)) (nB a) (fun m w p F e2 e3 ht hw hf ep hp => ?_) (fun i hi ih m w p F e2 e3 ht hw hf ep hp => ?_) m2 (fun _ => 0) (fun _ => false) F02 b2 b3 t2 (fun b h1 h2 => by omega) (fun b h1 h2 => by rw [show b = nB a by omega, Nat.sub_self]; exact b73) b9 (fun b h1 h2 => by omega)
  · have hAm : CA m a d := hA.of F (by decide)
    rw [Nat.sub_self] at hw hf hp ⊢
    refine t_Wo_least_53 m ml z _ ⟨fun _ => ?_, fun c => absurd (by decide) c⟩
    refine c_Wo_canBeEnough hAm ht.1 hr e2 e3 hen ep ⟨fun _ => ?_, fun q => absurd q (by decide)⟩ (fun hno => ⟨fun q => absurd rfl q, fun _ => hq0 (wooN_none (fun n _ => no_success ha hr he (fun b hb => hp b (Nat.zero_le _) hb) h9 hno n)) m F⟩)
    have hS : WoS m a d r en (Wth a d r) := ⟨e2, e3, fun b hb => (hw b (Nat.zero_le _) hb).1, fun b hb => ⟨rfl, (hw b (Nat.zero_le _) hb).2⟩, fun b hb => hf b (Nat.zero_le _) hb⟩
    refine loop (P := fun n => ∀ m' wt, Fr SC mi m' → WoS m' a d r en (Wth a d r) → TrW m' a d r wt → (∀ x, x < n → fs e (fun b => dG d b r) (nB a) 0 x (fun _ => 0) = none) → Ev l (h + 13) m_Wo_least 112 ([.ref 68, .retAddr 0, .retAddr 0, .retAddr 0, .int (nI n)], [], st m' ml z) (qI Q)) 10 (fun m' wt F' hS' ht' hno => ?_) (fun n hn ihn m' wt F' hS' ht' hno => ?_) m w F hS ht (fun x hx => absurd hx (Nat.not_lt_zero _))
    · exact t_Wo_least_112 m' ml z _ ⟨fun _ => hq0 (wooN_none hno) m' F', fun c => absurd (by decide) c⟩
    · have hA' : CA m' a d := hA.of F' (by decide)
      refine t_Wo_least_112 m' ml z _ ⟨fun c => absurd ((nI_ltI (a := 9) (b := n) (by decide) (by omega)).mp c) (by omega), fun _ => ?_⟩
      rw [show h + 12 = (h + (6 - nB a)) + nB a + 6 by omega]
      refine c_Wo_givesFrom (N := n) hr hen he (fun i => Wth_lt i) (fun w hz hv hs hew b hb => new_of (least_new ha hr he hno hz hv hs hew b hb)) (nB a) (b := 0) (left := n) (w := fun _ => 0) (wt := wt) (by omega) (by omega) (by simp [sm]) hA' hS' ht' (fun i hi => absurd hi (Nat.not_lt_zero _)) (fun _ _ => rfl) (fun _ => Nat.zero_le _) (fun i hi => absurd hi (Nat.not_lt_zero _)) (fun hf m3 wt3 F3 t3 _ _ => ⟨fun _ => ?_, fun q => absurd rfl q⟩) (fun w' hf m3 F3 k3 => ⟨fun q => absurd q (by decide), fun _ => hq1 n w' (wooN_some hno hf hn) hn m3 (F'.step (F3.weak (by simp))) k3⟩)
      rw [nI_1, show h + (6 - nB a) + nB a + 6 + 1 = h + 13 by omega]
      refine ihn m3 wt3 (F'.step (F3.weak (by simp))) (hS'.fr (fun q hq => F3 q (by simp; omega))) t3 (fun x hx => ?_)
      by_cases q : x = n
      · rw [q]; exact hf
      · exact hno x (by omega)
  · have hAm : CA m a d := hA.of F (by decide)
    obtain ⟨b, hbn⟩ : ∃ b, nB a - i = b + 1 := ⟨nB a - i - 1, by omega⟩
    have hbB : b < nB a := by omega
    rw [hbn, sub1 (show 0 < b + 1 by omega) (by omega), Nat.add_sub_cancel]
    rw [hbn] at hw hf hp
    refine t_Wo_least_53 m ml z _ ⟨fun c => absurd ((nI_ltI (a := b) (b := 0) (by omega) (by decide)).mp c) (by omega), fun _ => ?_⟩
    refine c_Wo_weighGifts hAm e2 hbB hr ht ep (fun m3 w3 p3 F3 k68 t3 wl3 k72 ko ki kp hp1 hp2 => ?_)
    rw [nI_1, cl_nI (show b + 1 < 2 ^ 31 by omega), cl_nI (show b < 2 ^ 31 by omega), k72]
    refine ⟨in_nI (by omega) (by decide), in_nI (by omega) (by decide), c_nlz (Wth_lt b) (Wth_pos (h9 b)) ⟨in_nI (by omega) (by decide), ?_⟩⟩
    have hlog := log_10 _ (Wth_lt (a := a) (d := d) (r := r) b)
    have hmf := mfw_le (W := Wth a d r) (fun i => Wth_lt i) (k := nB a - (b + 1)) (b := b + 1)
    have ev : m3 73 (b + 1) + 31 - nI (31 - Nat.log2 (Wth a d r b)) = nI (mfw (Wth a d r) b (nB a - b)) := by
      rw [F3 73 (by decide), hf (b + 1) (by omega) (by omega), show nB a - b = (nB a - (b + 1)) + 1 by omega]
      simp only [mfw]
      rw [show (31 : Int32) = nI 31 from rfl, nI_add]
      apply Int32.toInt_inj.mp
      rw [Int32.toInt_sub, nI_toInt (by omega), nI_toInt (by omega), nI_toInt (by omega)]
      rw [show ((mfw (Wth a d r) (b + 1) (nB a - (b + 1)) + 31 : Nat) : Int) - ((31 - Nat.log2 (Wth a d r b) : Nat) : Int) = ((mfw (Wth a d r) (b + 1) (nB a - (b + 1)) + Nat.log2 (Wth a d r b) : Nat) : Int) by omega]
      exact Int.bmod_eq_of_le (by omega) (by omega)
    show Ev l (h + 13) m_Wo_least 53 ([.ref 68, .retAddr 0, .retAddr 0, .retAddr 0, .int (nI b + (-1))], [], st (up m3 73 b (m3 73 (b + 1) + 31 - nI (31 - Nat.log2 (Wth a d r b)))) ml z) (qI Q)
    rw [ev, m1_sub]
    have key := ih (up m3 73 b (nI (mfw (Wth a d r) b (nB a - b)))) w3 p3 ((F.step (F3.weak (by simp))).step ((Fr_up _ _ _ _).weak (by simp))) (by rw [up_ne _ _ _ (by decide), k68 2 (by decide)]; exact e2) (by rw [up_ne _ _ _ (by decide), k68 3 (by decide)]; exact e3) (t3.fr (fun n h1 h2 => up_ne _ _ _ (by omega))) (fun b' h1 h2 => ?_) (fun b' h1 h2 => ?_) (by rw [up_ne _ _ _ (by decide)]; exact kp) (fun b' h1 h2 k hk hne => ?_)
    · rw [show nB a - (i + 1) = b by omega] at key
      exact key
    · rw [show nB a - (i + 1) = b by omega] at h1
      by_cases q : b' = b
      · subst q
        exact ⟨wl3.fr (up_ne _ _ _ (by decide)) (up_ne _ _ _ (by decide)) (up_ne _ _ _ (by decide)), by rw [up_ne _ _ _ (by decide)]; exact k72⟩
      · have hw' := hw b' (by omega) h2
        refine ⟨fun k hk => ?_, by rw [up_ne _ _ _ (by decide), ki b' q]; exact hw'.2⟩
        have := ko (10 * b' + k) (by omega)
        rw [up_ne _ _ _ (by decide), up_ne _ _ _ (by decide), up_ne _ _ _ (by decide), this.1, this.2.1, this.2.2]
        exact hw'.1 k hk
    · rw [show nB a - (i + 1) = b by omega] at h1
      by_cases q : b' = b
      · subst q; rw [up_at]
      · rw [up_nk _ _ _ q, F3 73 (by decide)]; exact hf b' (by omega) h2
    · rw [show nB a - (i + 1) = b by omega] at h1
      by_cases q : b' = b
      · subst q; exact hp2 k hk hne
      · exact hp1 b' (hp b' (by omega) h2 k hk hne)
theorem c_B_woos {l : Launch} {h : Nat} {mi : TMi} {ml : TMl} {z : Nat} {a : Ln} {d : Dt} {x y v : Int32} {e : (Nat → Nat) → Bool} {Q : Int32 → TMi → TMl → Nat → Prop} (hA : CA mi a d) (he : ∀ w, e w = true ↔ E a d x.toInt.toNat y.toInt.toNat w)
    (hq : ∀ mi', Fr SC mi mi' → Q (wooA e a d x y v) mi' ml z) : CI l (h + 14) m_B_woos [.ref 1, .int x, .int y, .int v] mi ml z Q := by
  have ha := hA.1
  have hB6 := ha.1
  have no : ¬ (inR a x ∧ (v = 0 ∨ (10 ≤ v.toInt ∧ v.toInt < nB a + 10))) → Q (-2) mi ml z := fun hn => by
    have := hq mi (Fr.refl _ _)
    unfold wooA at this
    rw [if_neg hn] at this
    exact this
  have go : inR a x → (v = 0 ∨ (10 ≤ v.toInt ∧ v.toInt < nB a + 10)) → ((y < 0 → Q (-3) mi ml z) ∧ (¬ y < 0 → ((y ≤ 99 → CI l (h + 13) m_Wo_least [.ref 68, .ref 17, .int x, .int y] mi ml z (fun x6 mi6 ml6 z6 => ((x6 = (-1) → Q x6 mi6 ml6 z6) ∧ (¬ x6 = (-1) → ((¬ v = 0 → (vp_in (v - 10) 6) ∧ Q (mi6 74 ((v - 10).toNatClampNeg)) mi6 ml6 z6) ∧ (v = 0 → Q x6 mi6 ml6 z6)))))) ∧ (¬ y ≤ 99 → Q (-3) mi ml z)))) := fun hx hv => by
    have n3 : ¬ (0 ≤ y.toInt ∧ y.toInt ≤ 99) → Q (-3) mi ml z := fun hn => by
      have := hq mi (Fr.refl _ _)
      unfold wooA at this
      rw [if_pos ⟨hx, hv⟩, if_neg hn] at this
      exact this
    rw [Int32.lt_iff_toInt_lt, Int32.toInt_zero, Int32.le_iff_toInt_le, show (99 : Int32).toInt = 99 by decide]
    refine ⟨fun c => n3 (by omega), fun c => ⟨fun c2 => ?_, fun c2 => n3 (by omega)⟩⟩
    obtain ⟨ex, hr⟩ := inR_nI (a := a) hx
    have ey := nI_toNat (x := y) (by omega)
    have hq' : ∀ mi', Fr SC mi mi' → Q (wooV (wooN e a d x.toInt.toNat 10) v) mi' ml z := fun mi' F => by
      have := hq mi' F
      unfold wooA at this
      rw [if_pos ⟨hx, hv⟩, if_pos ⟨by omega, c2⟩] at this
      exact this
    have hen : y.toInt.toNat ≤ 99 := by omega
    generalize y.toInt.toNat = en at ey he hen
    generalize x.toInt.toNat = r at ex hr hq' he
    rw [ex, ey]
    refine c_Wo_least hA hr hen he (fun hn m F => ?_) (fun n w hn h10 m F k74 => ?_)
    · have := hq' m F
      rw [hn] at this
      exact ⟨fun _ => this, fun q => absurd rfl q⟩
    · have := hq' m F
      rw [hn] at this
      simp only [wooV] at this
      refine ⟨fun q => absurd q (neg1_ne (by omega)), fun _ => ⟨fun q => ?_, fun q => ?_⟩⟩
      · have hv' := hv.resolve_left q
        rw [if_neg q] at this
        have e10 := sub10 hv'.1
        have ev := nI_toNat (x := v - 10) (by omega)
        have hlt : (v - 10).toInt.toNat < 6 := by omega
        rw [ev]
        refine ⟨in_nI hlt (by decide), ?_⟩
        rw [cl_nI (by omega), k74 _ (by omega), show (v - 10).toInt.toNat = v.toInt.toNat - 10 by omega]
        exact this
      · rw [if_pos q] at this
        exact this
  refine t_B_woos mi ml z _ _ _ ⟨fun q => c_hasRiver hA.2.2.1.2.1 ha.2.1 ⟨fun c => ?_, fun c => ?_⟩, fun q => ⟨fun q2 => c_hasRiver hA.2.2.1.2.1 ha.2.1 ⟨fun c => ?_, fun c => ?_⟩, fun q2 => c_hasBeck hA.2.2.1.1 hB6 ⟨fun c => c_hasRiver hA.2.2.1.2.1 ha.2.1 ⟨fun c2 => ?_, fun c2 => ?_⟩, fun c => c_hasRiver hA.2.2.1.2.1 ha.2.1 ⟨fun c2 => ?_, fun c2 => ?_⟩⟩⟩⟩
  · rw [bI_0, decide_eq_false_iff_not] at c
    exact no (fun k => c k.1)
  · rw [bI_0, Bool.not_eq_false, decide_eq_true_eq] at c
    exact go c (Or.inl q)
  · rw [lt10] at q2
    exact no (fun k => by rcases k.2 with k | k; exact q k; omega)
  · rw [lt10] at q2
    exact no (fun k => by rcases k.2 with k | k; exact q k; omega)
  · rw [lt10] at q2
    rw [bI_0, decide_eq_false_iff_not, sub10 (by omega)] at c
    exact no (fun k => by rcases k.2 with k | k; exact q k; omega)
  · rw [lt10] at q2
    rw [bI_0, decide_eq_false_iff_not, sub10 (by omega)] at c
    exact no (fun k => by rcases k.2 with k | k; exact q k; omega)
  · rw [bI_0, decide_eq_false_iff_not] at c2
    exact no (fun k => c2 k.1)
  · rw [lt10] at q2
    rw [bI_0, Bool.not_eq_false, decide_eq_true_eq, sub10 (by omega)] at c
    rw [bI_0, Bool.not_eq_false, decide_eq_true_eq] at c2
    exact go c2 (Or.inr ⟨by omega, by omega⟩)
