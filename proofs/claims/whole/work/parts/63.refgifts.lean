/-! ===== gifts: the reference's side ===== -/
theorem find_range {f : Nat → Option (Nat → Nat)} {n : Nat} {w : Nat → Nat} (h0 : ∀ x, x < n → f x = none) (h1 : f n = some w) : ∀ {M : Nat}, n < M → (List.range M).findSome? f = some w
  | 0, h => absurd h (Nat.not_lt_zero _)
  | M + 1, h => by
    rw [List.range_succ, List.findSome?_append]
    by_cases q : n < M
    · rw [find_range h0 h1 q]; rfl
    · have : n = M := by omega
      subst this
      rw [List.findSome?_eq_none_iff.mpr (fun x hx => h0 x (by rw [List.mem_range] at hx; exact hx))]
      simp [h1]
theorem setG_gv {d : Dt} {r b n : Nat} {w : Nat → Nat} : setG (gvD d r w) b r (dG d b r + n) = gvD d r (fun i => if i = b then n else w i) := by
  obtain ⟨w0, f, q, g⟩ := d
  simp only [setG, gvD, dG]
  congr 3
  funext i j
  by_cases q1 : i = b
  · by_cases q2 : j = r
    · subst q1; subst q2; simp
    · simp [q2]
  · by_cases q2 : j = r
    · simp [q1, q2]
    · simp [q2]
theorem okD_gv {a : Ln} {d : Dt} {r : Nat} {w : Nat → Nat} (h : okD a d) (hw : ∀ i, w i ≤ 9 - dG d i r) : okD a (gvD d r w) := by
  obtain ⟨h1, h2, h3, h4, h5⟩ := h
  refine ⟨h1, h2, h3, fun b y => ?_, h5⟩
  show (if y = r then dG d b y + w b else dG d b y) ≤ 9
  by_cases q : y = r
  · subst q
    rw [if_pos rfl]
    have := hw b
    have := h4 b y
    omega
  · rw [if_neg q]; exact h4 b y
def FW (m m' : TMi) : Prop := (∀ n, n ≠ 120 → n ≠ 124 → n ≠ 125 → n ≠ 126 → n ≠ 127 → n ≠ 129 → n ≠ 131 → n ≠ 133 → m' n = m n)
theorem FW.refl (m : TMi) : FW m m := fun _ _ _ _ _ _ _ _ _ => rfl
theorem FW.trans {a b c : TMi} (h : FW a b) (k : FW b c) : FW a c := fun n h1 h2 h3 h4 h5 h6 h7 h8 => by rw [k n h1 h2 h3 h4 h5 h6 h7 h8, h n h1 h2 h3 h4 h5 h6 h7 h8]
theorem FW.of {a b : TMi} {ns : List Nat} (F : Fr ns a b) (h : ∀ n, n ∈ ns → n = 120 ∨ n = 124 ∨ n = 125 ∨ n = 126 ∨ n = 127 ∨ n = 129 ∨ n = 131 ∨ n = 133) : FW a b := fun n h1 h2 h3 h4 h5 h6 h7 h8 => F n (fun q => by have := h n q; omega)
theorem FW.q {a b : TMi} (h : FW a b) (e : b 120 = a 120) : FQ a b := by
  have e9 : b 119 = a 119 := h 119 (by decide) (by decide) (by decide) (by decide) (by decide) (by decide) (by decide) (by decide)
  refine ⟨fun n hn => ?_, by rw [e9], by rw [e9], by rw [e9]⟩
  by_cases q : n = 120
  · subst q; exact e
  · exact h n q (by omega) (by omega) (by omega) (by omega) (by omega) (by omega) (by omega)
theorem dry_none {B R : Nat} {L T : Nat → Nat → Int} : Like B R (dryL (fun b => !tb 0 b) L) T L T := Like.of (fun b r _ _ => ⟨by simp [dryL, tb], rfl⟩)
theorem RA.w {mi : TMi} {a : Ln} {d d' : Dt} (h : RA mi a d) (hd : okD a d') (hc : CrA mi d') : RA mi a d' := ⟨h.1, hd, h.2.2.1, h.2.2.2.1, hc⟩
theorem E_best {a : Ln} {d : Dt} {r en : Nat} {w : Nat → Nat} {be : Nat → Option Nat} (ha : okLn a) (h : BestA a (gvD d r w) be) : E a d r en w ↔ en ≤ smn (inn be r) (dF d) (nB a) := by
  constructor
  · rintro ⟨be', h1, h2⟩
    have := best_uniq ha.2.1 h.1 h1.1 h.2 h1.2
    rw [smn_congr (q := inn be' r) (g := dF d) (fun b hb => by simp [inn, this b hb]) (fun _ _ => rfl)]
    exact h2
  · exact fun h2 => ⟨be, h, h2⟩
theorem c_R_goesGifts {l : Launch} {ml : TMl} {z : Nat} {a : Ln} {d : Dt} {r en : Nat} {e : (Nat → Nat) → Bool} (hr : r < nR a) (hen : en ≤ 99) (he : ∀ w, e w = true ↔ E a d r en w) (hd0 : okD a d) : ∀ (k : Nat) {h b left : Nat} {m : TMi} {w : Nat → Nat} {Q : Int32 → TMi → TMl → Nat → Prop}, b + k = nB a → left ≤ 9 → RA m a (gvD d r w) → (∀ i, b ≤ i → w i = 0) → (∀ i, w i ≤ 9 - dG d i r) → (∀ i, i < b → m 133 i = nI (w i)) →
    (fs e (fun b => dG d b r) k b left w = none → ∀ m', FW m m' → m' 120 = m 120 → (∀ i, i < b → m' 133 i = m 133 i) → Q 0 m' ml z) →
    (∀ w', fs e (fun b => dG d b r) k b left w = some w' → ∀ m', FW m m' → m' 120 = m 120 → (∀ i, i < nB a → m' 133 i = nI (w' i)) → Q 1 m' ml z) → CI l (h + k + 4) m_R_goesGifts [.ref 119, .int (nI b), .int (nI left), .int (nI r), .int (nI en)] m ml z Q := by
  intro k
  induction k with
  | zero =>
    intro h b left m w Q hbk hle hA hz hv hm hq0 hq1
    have ha := hA.1
    have hB6 := ha.1
    have hR4 := ha.2.1
    refine t_R_goesGifts m ml z _ _ _ _ ⟨fun c => absurd (by rw [hA.2.2.2.1.1]; congr 1) c, fun _ => ?_⟩
    show (nI left ≤ nI 0 → _) ∧ (¬ nI left ≤ nI 0 → _)
    rw [nI_leI (by omega) (by decide)]
    refine ⟨fun q => c_laysLikes ha hA.2.1.v hA.2.2.2.1 hA.2.2.2.2 (fun m1 F1 hl1 => ?_), fun q => hq0 (by simp only [fs]; rw [if_neg (fun k => q (by omega))]) m (FW.refl _) rfl (fun _ _ => rfl)⟩
    have F1q : FQ m m1 := FQ.of F1 (fun n hn => by simp; omega)
    have hA1 := hA.q F1q
    refine c_R_laysByBecks (d := 0) (hA1.rh hl1) (by decide) (fun m2 be F2 hw2 hbe => ?_)
    have hbe' : BestA a (gvD d r w) be := (hbe.like dry_none).like hl1.like
    have F2q : FQ m1 m2 := FQ.of F2 (fun n hn => by simp; omega)
    have hA2 := hA1.q F2q
    have FF : FW m m2 := (FW.of F1 (by simp)).trans (FW.of F2 (by simp))
    have e120 : m2 120 = m 120 := by rw [F2 120 (by decide), F1 120 (by decide)]
    have e133 : m2 133 = m 133 := by rw [F2 133 (by decide), F1 133 (by decide)]
    refine c_R_becksBy hA2.2.2.2.1.1 hB6 ?_
    rw [isW_enc hw2 hR4 (show r < 4 by omega)]
    refine c_R_flowOf hA2.2.2.2.1.1 hB6 (enc_64 _ hB6) (f := dF d) (fun b hb => cr_fl hA2.2.2.2.2 (by omega)) ?_
    rw [smn_enc]
    have h54 := smn_le (inn be r) (dF d) 9 (nB a) (fun b _ => (hd0.2.1 b).1)
    show (nI (smn (inn be r) (dF d) (nB a)) < nI en → _) ∧ (¬ nI (smn (inn be r) (dF d) (nB a)) < nI en → _)
    rw [nI_ltI (by omega) (by omega)]
    have hE := E_best (en := en) ha hbe'
    refine ⟨fun c => hq0 ?_ m2 FF e120 (fun i _ => by rw [e133]), fun c => hq1 w ?_ m2 FF e120 (fun i hi => by rw [e133]; exact hm i (by omega))⟩
    · simp only [fs]
      rw [if_neg (fun k => by have := hE.mp ((he w).mp k.2); omega)]
    · simp only [fs]
      rw [if_pos ⟨by omega, (he w).mpr (hE.mpr (by omega))⟩]
  | succ k ih =>
    intro h b left m w Q hbk hle hA hz hv hm hq0 hq1
    have ha := hA.1
    have hB6 := ha.1
    have hR4 := ha.2.1
    have hbB : b < nB a := by omega
    have h9 := hd0.2.2.2.1 b r
    have hat : m 120 (45 + 6 * r + b) = nI (dG d b r) := by
      rw [cr_gf hA.2.2.2.2 (by omega) (by omega)]
      congr 1
      show (if r = r then dG d b r + w b else dG d b r) = _
      rw [if_pos rfl, hz b (Nat.le_refl _), Nat.add_zero]
    have hin : vp_in (nI (45 + 6 * r + b)) 4113 := in_nI (by omega) (by decide)
    refine t_R_goesGifts m ml z _ _ _ _ ⟨fun _ => t_R_giftAt _ _ _ _ _ ?_, fun c => absurd (nI_inj (a := b) (b := nB a) (by omega) (by omega) (c.trans hA.2.2.2.1.1)) (by omega)⟩
    have eat : (45 : Int32) + 6 * nI r + nI b = nI (45 + 6 * r + b) := by
      rw [show (6 : Int32) * nI r = nI (6 * r) from mulL 6 r, addL, nI_add]
    rw [eat, cl_nI (by omega), hat]
    have esub : (9 : Int32) - nI (dG d b r) = nI (9 - dG d b r) := by
      apply Int32.toInt_inj.mp
      rw [Int32.toInt_sub, nI_toInt (by omega), nI_toInt (by omega), show (9 : Int32).toInt = 9 by decide]
      rw [show (9 : Int) - ((dG d b r : Nat) : Int) = ((9 - dG d b r : Nat) : Int) by omega]
      exact Int.bmod_eq_of_le (by omega) (by omega)
    rw [esub, nI_leI (by omega) (by omega)]
    have body : ∀ M, M = min left (9 - dG d b r) → Ev l (h + (k + 1) + 4) m_R_goesGifts 88 ([.ref 119, .int (nI b), .int (nI left), .int (nI r), .int (nI en), .int (nI (45 + 6 * r + b)), .int (nI (dG d b r)), .int (nI M), .int 0, .int 0], [], st m ml z) (qI Q) := fun M hM => by
      have hfs : fs e (fun b => dG d b r) (k + 1) b left w = (List.range (M + 1)).findSome? (fun n => fs e (fun b => dG d b r) k (b + 1) (left - n) (fun i => if i = b then n else w i)) := by simp only [fs, hM]
      refine loop (P := fun n => ∀ m', FW m m' → (∀ j, j ≠ 45 + 6 * r + b → m' 120 j = m 120 j) → (∀ i, i < b → m' 133 i = m 133 i) → (∀ n', n' < n → fs e (fun b => dG d b r) k (b + 1) (left - n') (fun i => if i = b then n' else w i) = none) → Ev l (h + (k + 1) + 4) m_R_goesGifts 88 ([.ref 119, .int (nI b), .int (nI left), .int (nI r), .int (nI en), .int (nI (45 + 6 * r + b)), .int (nI (dG d b r)), .int (nI M), .int 0, .int (nI n)], [], st m' ml z) (qI Q)) (M + 1) (fun m' F e120 e133 hno => ?_) (fun n hn ihn m' F e120 e133 hno => ?_) m (FW.refl _) (fun _ _ => rfl) (fun _ _ => rfl) (fun n' h => absurd h (Nat.not_lt_zero _))
      · refine t_R_goesGifts_88 m' ml z _ _ _ _ _ _ _ _ _ ⟨fun _ => ⟨hin, rfl, ?_⟩, fun c => absurd ((nI_ltI (by omega) (by omega)).mpr (Nat.lt_succ_self M)) c⟩
        rw [cl_nI (by omega)]
        refine hq0 ?_ _ (F.trans (FW.of (Fr_up _ _ _ _) (by simp))) ?_ (fun i hi => by rw [up_ne _ _ _ (by decide)]; exact e133 i hi)
        · rw [hfs, List.findSome?_eq_none_iff]
          exact fun n' hn' => hno n' (by rw [List.mem_range] at hn'; exact hn')
        · rw [up_self]
          funext j
          by_cases q : j = 45 + 6 * r + b
          · subst q; rw [upd_at, hat]
          · rw [upd_ne _ _ q]; exact e120 j q
      · refine t_R_goesGifts_88 m' ml z _ _ _ _ _ _ _ _ _ ⟨fun c => absurd ((nI_ltI (by omega) (by omega)).mp c) (by omega), fun _ => ⟨fun c => absurd rfl c, fun _ => ⟨in_nI (by omega) (by decide), hin, ?_⟩⟩⟩
        rw [cl_nI (show 45 + 6 * r + b < 2 ^ 31 by omega), cl_nI (show b < 2 ^ 31 by omega), nI_add, nI_1, nI_1]
        have esb : nI left - nI n = nI (left - n) := by
          apply Int32.toInt_inj.mp
          rw [Int32.toInt_sub, nI_toInt (by omega), nI_toInt (by omega), nI_toInt (by omega)]
          rw [show ((left : Nat) : Int) - ((n : Nat) : Int) = ((left - n : Nat) : Int) by omega]
          exact Int.bmod_eq_of_le (by omega) (by omega)
        rw [esb]
        have F1 : FW m (up (up m' 133 b (nI n)) 120 (45 + 6 * r + b) (nI (dG d b r + n))) := (F.trans (FW.of (Fr_up _ _ _ _) (by simp))).trans (FW.of (Fr_up _ _ _ _) (by simp))
        have g120 : ∀ j, j ≠ 45 + 6 * r + b → (up (up m' 133 b (nI n)) 120 (45 + 6 * r + b) (nI (dG d b r + n))) 120 j = m 120 j := fun j q => by rw [up_nk _ _ _ q, up_ne _ _ _ (by decide)]; exact e120 j q
        have g133 : ∀ i, (up (up m' 133 b (nI n)) 120 (45 + 6 * r + b) (nI (dG d b r + n))) 133 i = if i = b then nI n else m' 133 i := fun i => by
          rw [up_ne _ _ _ (by decide)]
          by_cases q : i = b
          · subst q; rw [up_at, if_pos rfl]
          · rw [up_nk _ _ _ q, if_neg q]
        have gC : CrA (up (up m' 133 b (nI n)) 120 (45 + 6 * r + b) (nI (dG d b r + n))) (gvD d r (fun i => if i = b then n else w i)) := by
          rw [show 45 + 6 * r + b = 29 + (16 + (6 * r + b)) by omega]
          refine CrA.up (d := gvD d r w) ?_
          rw [← setG_gv]
          have h0 : Cr (upd (fun j => m 120 (29 + j)) (16 + (6 * r + b)) (nI (dG d b r + n))) (setG (gvD d r w) b r (dG d b r + n)) := Cr.sG hA.2.2.2.2 (by omega) (by omega) _
          refine h0.ext (fun j hj => ?_)
          by_cases q : j = 16 + (6 * r + b)
          · subst q; rw [upd_at, upd_at]
          · rw [upd_ne _ _ q, upd_ne _ _ q, up_ne _ _ _ (by decide)]
            exact e120 _ (by omega)
        have hv' : ∀ i, (if i = b then n else w i) ≤ 9 - dG d i r := fun i => by
          by_cases q : i = b
          · subst q; rw [if_pos rfl]; omega
          · rw [if_neg q]; exact hv i
        generalize up (up m' 133 b (nI n)) 120 (45 + 6 * r + b) (nI (dG d b r + n)) = m1 at F1 g120 g133 gC ⊢
        have hL1 : LnR (m1 120) a := hA.2.2.2.1.fr ha (fun j hj => g120 j (by omega))
        have hA1 : RA m1 a (gvD d r (fun i => if i = b then n else w i)) := ⟨ha, okD_gv hd0 hv', hA.2.2.1, hL1, gC⟩
        rw [show h + (k + 1) + 3 = h + k + 4 by omega]
        refine ih (h := h) (b := b + 1) (left := left - n) (m := m1) (w := fun i => if i = b then n else w i) (by omega) (by omega) hA1 (fun i hi => by rw [if_neg (by omega)]; exact hz i (by omega)) hv' (fun i hi => ?_) (fun hf m2 F2 k120 k133 => ?_) (fun w' hf m2 F2 k120 k133 => ?_)
        · rw [g133]
          by_cases q : i = b
          · rw [if_pos q]; simp only [q, if_true]
          · rw [if_neg q]; simp only [q, if_false]; rw [e133 i (by omega)]; exact hm i (by omega)
        · refine ihn m2 (F1.trans F2) (fun j q => by rw [k120]; exact g120 j q) (fun i hi => by rw [k133 i (by omega), g133, if_neg (by omega)]; exact e133 i hi) (fun n' hn' => ?_)
          by_cases q : n' = n
          · rw [q]; exact hf
          · exact hno n' (by omega)
        · have hw' : fs e (fun b => dG d b r) (k + 1) b left w = some w' := by rw [hfs]; exact find_range hno hf hn
          have fin : Q 1 (up m2 120 (45 + 6 * r + b) (nI (dG d b r))) ml z := by
            refine hq1 w' hw' _ ((F1.trans F2).trans (FW.of (Fr_up _ _ _ _) (by simp))) ?_ (fun i hi => by rw [up_ne _ _ _ (by decide)]; exact k133 i hi)
            rw [up_self]
            funext j
            by_cases q : j = 45 + 6 * r + b
            · subst q; rw [upd_at, hat]
            · rw [upd_ne _ _ q, k120]; exact g120 j q
          refine t_R_goesGifts_88 m2 ml z _ _ _ _ _ _ _ _ _ ⟨fun _ => ⟨hin, rfl, ?_⟩, fun _ => ⟨fun _ => ⟨hin, rfl, ?_⟩, fun c => absurd c (by decide)⟩⟩
          · rw [cl_nI (by omega)]; exact fin
          · rw [cl_nI (by omega)]; exact fin
    exact ⟨hin, fun q => body _ (by omega), fun q => body _ (by omega)⟩
/-- what woos answers -/
def wooN (e : (Nat → Nat) → Bool) (a : Ln) (d : Dt) (r : Nat) : Nat → Option (Nat × (Nat → Nat))
  | 0 => none
  | n + 1 => match wooN e a d r n with
    | some x => some x
    | none => (fs e (fun b => dG d b r) (nB a) 0 n (fun _ => 0)).map (fun w => (n, w))
theorem wooN_none {e : (Nat → Nat) → Bool} {a : Ln} {d : Dt} {r : Nat} : ∀ {N : Nat}, (∀ n, n < N → fs e (fun b => dG d b r) (nB a) 0 n (fun _ => 0) = none) → wooN e a d r N = none
  | 0, _ => rfl
  | N + 1, h => by simp only [wooN, wooN_none (N := N) (fun n hn => h n (by omega)), h N (by omega)]; rfl
theorem wooN_some {e : (Nat → Nat) → Bool} {a : Ln} {d : Dt} {r n : Nat} {w : Nat → Nat} (h0 : ∀ x, x < n → fs e (fun b => dG d b r) (nB a) 0 x (fun _ => 0) = none) (h1 : fs e (fun b => dG d b r) (nB a) 0 n (fun _ => 0) = some w) : ∀ {N : Nat}, n < N → wooN e a d r N = some (n, w)
  | 0, h => absurd h (Nat.not_lt_zero _)
  | N + 1, h => by
    by_cases q : n < N
    · simp only [wooN, wooN_some h0 h1 q]
    · have : n = N := by omega
      subst this
      simp only [wooN, wooN_none h0, h1]
      rfl
def wooV (x : Option (Nat × (Nat → Nat))) (what : Int32) : Int32 := match x with
  | none => -1
  | some (n, w) => if what = 0 then nI n else nI (w (what.toInt.toNat - 10))
