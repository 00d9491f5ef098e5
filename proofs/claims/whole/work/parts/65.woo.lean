/-! ===== gifts: what the class weighs ===== -/
theorem or10 : ∀ i, i < 10 → ∀ m, m < 2 ^ i → nI m ||| ((1 : Int32) <<< (nI i &&& 31)) = nI (m + 2 ^ i) := by decide +kernel
theorem enc10 {p : Nat → Bool} {i : Nat} (hi : i < 10) (hp : p i = true) : nI (enc p i) ||| ((1 : Int32) <<< (nI i &&& 31)) = nI (enc p (i + 1)) := by
  rw [or10 i hi _ (enc_lt p i)]
  simp [enc, hp]
theorem sr10 : ∀ m, m < 1024 → ∀ i, i < 10 → (((nI m >>> (nI i &&& 31)) &&& 1 = 0) ↔ tb m i = false) := by
  have : ∀ m, m < 1024 → ∀ i, i < 10 → decide ((nI m >>> (nI i &&& 31)) &&& 1 = 0) = decide (tb m i = false) := by decide +kernel
  intro m hm i hi
  exact decide_eq_decide.mp (this m hm i hi)
theorem mul10 (b n : Nat) : nI b * 10 + nI n = nI (10 * b + n) := by
  rw [show nI b * 10 = nI (b * 10) from pk_mul _ _, nI_add, Nat.mul_comm]
def lvB (a : Ln) (d : Dt) (r b k f : Nat) : Bool := decide (rkL a d r b k = rkL a d r b f) && (decide (rkL a d r b k = none) || decide (tkD a (gvD d r (fun _ => k)) b r = tkD a (gvD d r (fun _ => f)) b r))
theorem lvB_iff {a : Ln} {d : Dt} {r b k f : Nat} : lvB a d r b k f = true ↔ same a d r b k f := by simp [lvB, same]
def newB (a : Ln) (d : Dt) (r b k : Nat) : Bool := alln (fun f => !lvB a d r b k f) k
/-- the first n levels of a beck, as they are kept -/
def WL (m : TMi) (a : Ln) (d : Dt) (r b n : Nat) : Prop := ∀ k, k < n → (m 69 (10 * b + k)).toInt = lkD a (gvD d r (fun _ => k)) b r ∧ (m 70 (10 * b + k)).toInt = tkD a (gvD d r (fun _ => k)) b r ∧ m 71 (10 * b + k) = oI (rkL a d r b k)
theorem WL.fr {m m' : TMi} {a : Ln} {d : Dt} {r b n : Nat} (h : WL m a d r b n) (e1 : m' 69 = m 69) (e2 : m' 70 = m 70) (e3 : m' 71 = m 71) : WL m' a d r b n := fun k hk => by rw [e1, e2, e3]; exact h k hk
theorem rkL_lt {a : Ln} {d : Dt} {r b k x : Nat} (ha : okLn a) (h : rkL a d r b k = some x) : x < 5 := by
  unfold rkL at h
  by_cases q : wdO (lkD a (gvD d r (fun _ => k))) (tkD a (gvD d r (fun _ => k))) b r = true
  · rw [if_pos q] at h
    cases h
    have := cnt_le (fun o => decide (pbO (lkD a (gvD d r (fun _ => k))) b r < pbO (lkD a (gvD d r (fun _ => k))) b o)) (nR a)
    have := ha.2.1
    unfold rkO
    omega
  · rw [if_neg q] at h; cases h
theorem c_Wo_isNew {l : Launch} {h : Nat} {m : TMi} {ml : TMl} {z : Nat} {a : Ln} {d : Dt} {r b n : Nat} {Q : Int32 → TMi → TMl → Nat → Prop} (ha : okLn a) (hb : b < 6) (hn : n < 10) (hw : WL m a d r b (n + 1)) (hq : Q (bI (newB a d r b n)) m ml z) : CI l (h + 2) m_Wo_isNew [.ref 68, .int (nI b), .int (nI n)] m ml z Q := by
  refine t_Wo_isNew m ml z _ _ (t_Wo_level _ _ _ _ _ (t_Wo_level _ _ _ _ _ ?_))
  rw [mul10, show nI b * 10 + 0 = nI (10 * b + 0) from mul10 b 0]
  refine loop (P := fun i => (∀ f, f < i → lvB a d r b n f = false) → Ev l (h + 2) m_Wo_isNew 13 ([.ref 68, .retAddr 0, .retAddr 0, .int (nI (10 * b + n)), .int (nI (10 * b + i))], [], st m ml z) (qI Q)) n (fun hk => ?_) (fun i hi ih hk => ?_) (fun f hf => absurd hf (Nat.not_lt_zero _))
  · rw [show newB a d r b n = true from alln_iff.mpr (fun f hf => by rw [hk f hf]; rfl)] at hq
    exact t_Wo_isNew_13 m ml z _ _ ⟨fun _ => hq, fun c => absurd (le_at (N := 10 * b + n) rfl (by omega)) c⟩
  · have hin : vp_in (nI (10 * b + i)) 60 := in_nI (by omega) (by decide)
    have hin2 : vp_in (nI (10 * b + n)) 60 := in_nI (by omega) (by decide)
    refine t_Wo_isNew_13 m ml z _ _ ⟨fun c => absurd c (ge_no (N := 10 * b + n) rfl (by omega) (by omega)), fun _ => ⟨hin, hin2, ?_⟩⟩
    obtain ⟨i1, i2, i3⟩ := hw i (by omega)
    obtain ⟨n1, n2, n3⟩ := hw n (by omega)
    rw [cl_nI (by omega), cl_nI (by omega), i3, n3, nI_1]
    have go : lvB a d r b n i = false → Ev l (h + 2) m_Wo_isNew 13 ([.ref 68, .retAddr 0, .retAddr 0, .int (nI (10 * b + n)), .int (nI (10 * b + i + 1))], [], st m ml z) (qI Q) := fun e => ih (fun f hf => by
      by_cases q : f = i
      · rw [q]; exact e
      · exact hk f (by omega))
    have stop : lvB a d r b n i = true → Q 0 m ml z := fun e => by
      rw [show newB a d r b n = false from alln_false hi (by rw [e]; rfl)] at hq
      exact hq
    refine ⟨fun c => go ?_, fun c => ⟨hin2, fun c2 => stop ?_, fun c2 => ⟨hin, hin2, fun c3 => go ?_, fun c3 => stop ?_⟩⟩⟩
    · unfold lvB
      rw [decide_eq_false (fun k => c (by rw [k]))]
      rfl
    · have er : rkL a d r b i = rkL a d r b n := oI_inj (fun x k => by have := rkL_lt ha k; omega) (fun x k => by have := rkL_lt ha k; omega) c
      cases e : rkL a d r b n with
      | some x => rw [e] at c2; exact absurd c2 (neg1_ne (by have := rkL_lt ha e; omega))
      | none => unfold lvB; rw [er, e]; simp
    · cases e : rkL a d r b n with
      | none => rw [e] at c2; exact absurd rfl c2
      | some x =>
        unfold lvB
        rw [e, decide_eq_false (p := tkD a (gvD d r (fun _ => n)) b r = tkD a (gvD d r (fun _ => i)) b r) (fun k => c3 (Int32.toInt_inj.mp (by rw [i2, n2, k])))]
        simp
    · have er : rkL a d r b i = rkL a d r b n := oI_inj (fun x k => by have := rkL_lt ha k; omega) (fun x k => by have := rkL_lt ha k; omega) c
      unfold lvB
      rw [er, ← i2, ← n2, c3]
      simp
/-- the trial scene, with gifts w -/
def TrW (m : TMi) (a : Ln) (d : Dt) (r : Nat) (w : Nat → Nat) : Prop := Cs (m 34) d ∧ SLp m 35 36 37 38 39 (nB a) (nR a) allP (lkD a (gvD d r w)) (tkD a (gvD d r w))
theorem TrW.fr {m m' : TMi} {a : Ln} {d : Dt} {r : Nat} {w : Nat → Nat} (h : TrW m a d r w) (e : ∀ n, 34 ≤ n → n < 40 → m' n = m n) : TrW m' a d r w :=
  ⟨by rw [e 34 (by omega) (by omega)]; exact h.1, h.2.fr (e _ (by omega) (by omega)) (e _ (by omega) (by omega)) (e _ (by omega) (by omega)) (e _ (by omega) (by omega)) (e _ (by omega) (by omega))⟩
theorem put_lk {a : Ln} {d : Dt} {r b n b' y : Nat} {w : Nat → Nat} (h : ¬ (b' = b ∧ y = r)) : lkD a (gvD d r (fun i => if i = b then n else w i)) b' y = lkD a (gvD d r w) b' y ∧ tkD a (gvD d r (fun i => if i = b then n else w i)) b' y = tkD a (gvD d r w) b' y := by
  by_cases q : y = r
  · have q2 : ¬ b' = b := fun k => h ⟨k, q⟩
    exact gv_w (by simp [q2])
  · rw [(gv_ne q).1, (gv_ne q).2, (gv_ne q).1, (gv_ne q).2]
    exact ⟨rfl, rfl⟩
theorem put_at {a : Ln} {d : Dt} {r b n y : Nat} {w : Nat → Nat} : lkD a (gvD d r (fun i => if i = b then n else w i)) b y = lkD a (gvD d r (fun _ => n)) b y ∧ tkD a (gvD d r (fun i => if i = b then n else w i)) b y = tkD a (gvD d r (fun _ => n)) b y := gv_w (by simp)
theorem rkO_put {a : Ln} {d : Dt} {r b n : Nat} {w : Nat → Nat} : rkO (lkD a (gvD d r (fun i => if i = b then n else w i))) (nR a) b r = rkO (lkD a (gvD d r (fun _ => n))) (nR a) b r := by
  unfold rkO pbO
  exact cnt_congr (fun o _ => by rw [put_at.1, put_at.1])
theorem wdO_put {a : Ln} {d : Dt} {r b n : Nat} {w : Nat → Nat} : wdO (lkD a (gvD d r (fun i => if i = b then n else w i))) (tkD a (gvD d r (fun i => if i = b then n else w i))) b r = wdO (lkD a (gvD d r (fun _ => n))) (tkD a (gvD d r (fun _ => n))) b r := by
  unfold wdO
  rw [put_at.1, put_at.2]
theorem c_measure_w {l : Launch} {h : Nat} {m : TMi} {ml : TMl} {z : Nat} {a : Ln} {d : Dt} {r b n : Nat} {w : Nat → Nat} {Q : TMi → TMl → Nat → Prop} (hA : CA m a d) (hb : b < nB a) (hr : r < nR a) (hn : dG d b r + n ≤ 9) (ht : TrW m a d r w) (hq : ∀ m', Fr [15, 16, 35, 36, 37, 38, 39] m m' → TrW m' a d r (fun i => if i = b then n else w i) → Q m' ml z) : CV l (h + 3) m_Sc_measure [.ref 33, .int (nI b), .int (nI r), .int (nI (nM a b)), .int (nI (dG d b r + n))] m ml z Q := by
  obtain ⟨ha, hd, hl, hc, hs⟩ := hA
  have hB6 := ha.1
  have hR4 := ha.2.1
  have hs1 : SLp m 35 36 37 38 39 (nB a) (nR a) (fun b' y => ¬ (b' = b ∧ y = r)) (lkD a (gvD d r (fun i => if i = b then n else w i))) (tkD a (gvD d r (fun i => if i = b then n else w i))) := ht.2.cong (fun b' y _ _ hp => ⟨trivial, put_lk hp⟩)
  have hg : dG (gvD d r (fun i => if i = b then n else w i)) b r = dG d b r + n := by simp [dG, gvD]
  have hm : Ms m 34 (nL a) (nT a) (lkD a (gvD d r (fun i => if i = b then n else w i))) (tkD a (gvD d r (fun i => if i = b then n else w i))) b r (nI (nM a b)) (nI (dG d b r + n)) := by
    have e1 : m 34 (6 + b) = nI (dF d b) := ht.1.2.1 b (by omega)
    have e2 : m 24 r = nI (nNm a r) := hl.2.2.2.2.2.1 r hr
    unfold Ms
    rw [e1, e2]
    refine ⟨okW_wds (by omega) (hd.2.1 b).1 (ha.2.2.1 b hb).1 (by omega) (ha.2.2.2 r hr).1 hn, ?_, ?_⟩
    · unfold lkD W0; rw [hg]; rfl
    · unfold tkD W0; rw [hg]; rfl
  refine c_Sc_measure_33 (hl.ld ha) hb hr hm hs1 (fun m2 F2 h2 => hq m2 F2 ⟨by rw [F2 34 (by decide)]; exact ht.1, h2.mono (fun b' y _ _ _ => ?_)⟩)
  by_cases q : b' = b ∧ y = r
  · exact Or.inr q
  · exact Or.inl q
theorem c_set_w {l : Launch} {h : Nat} {m : TMi} {ml : TMl} {z : Nat} {a : Ln} {d : Dt} {r b n : Nat} {w : Nat → Nat} {x y : Int32} {Q : TMi → TMl → Nat → Prop} (hA : CA m a d) (hb : b < nB a) (hr : r < nR a) (hn : dG d b r + n ≤ 9) (hx : x.toInt = lkD a (gvD d r (fun _ => n)) b r) (hy : y.toInt = tkD a (gvD d r (fun _ => n)) b r) (ht : TrW m a d r w) (hq : ∀ m', Fr [35, 36, 37, 38, 39] m m' → TrW m' a d r (fun i => if i = b then n else w i) → Q m' ml z) : CV l (h + 2) m_Sc_setLiking [.ref 33, .int (nI b), .int (nI r), .int x, .int y] m ml z Q := by
  obtain ⟨ha, hd, hl, hc, hs⟩ := hA
  have hs1 : SLp m 35 36 37 38 39 (nB a) (nR a) (fun b' y => ¬ (b' = b ∧ y = r)) (lkD a (gvD d r (fun i => if i = b then n else w i))) (tkD a (gvD d r (fun i => if i = b then n else w i))) := ht.2.cong (fun b' y _ _ hp => ⟨trivial, put_lk hp⟩)
  have hg : dG (gvD d r (fun i => if i = b then n else w i)) b r = dG d b r + n := by simp [dG, gvD]
  have hB6 := ha.1
  have hR4 := ha.2.1
  have hok : okW (W0 a (gvD d r (fun i => if i = b then n else w i)) b r) := by
    unfold W0
    rw [hg]
    exact okW_wds (by omega) (hd.2.1 b).1 (ha.2.2.1 b hb).1 (by omega) (ha.2.2.2 r hr).1 hn
  have hbd := hl.bd ha _ hok
  refine c_Sc_setLiking_33 hB6 hR4 hs1 hb hr (by rw [hx, put_at.1]) (by rw [hy, put_at.2]) hbd.1 hbd.2 (fun m2 F2 h2 => hq m2 F2 ⟨by rw [F2 34 (by decide)]; exact ht.1, h2.mono (fun b' y _ _ _ => ?_)⟩)
  by_cases q : b' = b ∧ y = r
  · exact Or.inr q
  · exact Or.inl q
