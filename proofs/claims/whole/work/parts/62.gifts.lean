/-! ===== gifts by which a river has enough: what is true of them ===== -/
def gvD (d : Dt) (r : Nat) (w : Nat → Nat) : Dt := (d.1, d.2.1, d.2.2.1, fun b y => if y = r then d.2.2.2 b y + w b else d.2.2.2 b y)
theorem gv_ne {a : Ln} {d : Dt} {r b y : Nat} {w : Nat → Nat} (h : ¬ y = r) : lkD a (gvD d r w) b y = lkD a d b y ∧ tkD a (gvD d r w) b y = tkD a d b y := by
  have e : dG (gvD d r w) b y = dG d b y := by simp [gvD, dG, h]
  unfold lkD tkD W0
  rw [e]
  exact ⟨rfl, rfl⟩
theorem gv_w {a : Ln} {d : Dt} {r b y : Nat} {w w' : Nat → Nat} (h : w b = w' b) : lkD a (gvD d r w) b y = lkD a (gvD d r w') b y ∧ tkD a (gvD d r w) b y = tkD a (gvD d r w') b y := by
  have e : dG (gvD d r w) b y = dG (gvD d r w') b y := by simp [gvD, dG, h]
  unfold lkD tkD W0
  rw [e]
  exact ⟨rfl, rfl⟩
theorem gv_0 (d : Dt) (r : Nat) : gvD d r (fun _ => 0) = d := by
  obtain ⟨w, f, q, g⟩ := d
  simp only [gvD, Nat.add_zero, ite_self]
def E (a : Ln) (d : Dt) (r en : Nat) (w : Nat → Nat) : Prop := ∃ be, BestA a (gvD d r w) be ∧ en ≤ smn (inn be r) (dF d) (nB a)
theorem E.like {a : Ln} {d : Dt} {r en : Nat} {w w' : Nat → Nat} (h : E a d r en w) (k : Like (nB a) (nR a) (lkD a (gvD d r w)) (tkD a (gvD d r w)) (lkD a (gvD d r w')) (tkD a (gvD d r w'))) : E a d r en w' := by
  obtain ⟨be, h1, h2⟩ := h
  exact ⟨be, h1.like k, h2⟩
theorem E.congr {a : Ln} {d : Dt} {r en : Nat} {w w' : Nat → Nat} (h : E a d r en w) (k : ∀ b, b < nB a → w b = w' b) : E a d r en w' := h.like (Like.of (fun b y hb _ => gv_w (k b hb)))
def rkL (a : Ln) (d : Dt) (r b k : Nat) : Option Nat := if wdO (lkD a (gvD d r (fun _ => k))) (tkD a (gvD d r (fun _ => k))) b r = true then some (rkO (lkD a (gvD d r (fun _ => k))) (nR a) b r) else none
def same (a : Ln) (d : Dt) (r b k k' : Nat) : Prop := rkL a d r b k = rkL a d r b k' ∧ (rkL a d r b k = none ∨ tkD a (gvD d r (fun _ => k)) b r = tkD a (gvD d r (fun _ => k')) b r)
theorem rank_set {p q : Nat → Bool} {n : Nat} (hc : cnt p n = cnt q n) (h : (∀ o, o < n → p o = true → q o = true) ∨ (∀ o, o < n → q o = true → p o = true)) : ∀ o, o < n → p o = q o := by
  intro o ho
  rcases h with h | h
  · cases e : p o
    · cases e2 : q o
      · rfl
      · have := cnt_lt ho e2 e h; omega
    · rw [h o ho e]
  · cases e : q o
    · cases e2 : p o
      · rfl
      · have := cnt_lt ho e2 e h; omega
    · rw [h o ho e]
theorem same_like {a : Ln} {d : Dt} {r b k' : Nat} {w : Nat → Nat} (ha : okLn a) (hr : r < nR a) (h : same a d r b (w b) k') : Like (nB a) (nR a) (lkD a (gvD d r w)) (tkD a (gvD d r w)) (lkD a (gvD d r (fun i => if i = b then k' else w i))) (tkD a (gvD d r (fun i => if i = b then k' else w i))) := by
  have hR4 := ha.2.1
  have ho : ∀ x y, ¬ x = b → lkD a (gvD d r w) x y = lkD a (gvD d r (fun i => if i = b then k' else w i)) x y ∧ tkD a (gvD d r w) x y = tkD a (gvD d r (fun i => if i = b then k' else w i)) x y := fun x y hx => gv_w (by simp [hx])
  have hy : ∀ y, ¬ y = r → lkD a (gvD d r w) b y = lkD a (gvD d r (fun i => if i = b then k' else w i)) b y ∧ tkD a (gvD d r w) b y = tkD a (gvD d r (fun i => if i = b then k' else w i)) b y := fun y q => ⟨by rw [(gv_ne q).1, (gv_ne q).1], by rw [(gv_ne q).2, (gv_ne q).2]⟩
  have e1 : ∀ y, lkD a (gvD d r w) b y = lkD a (gvD d r (fun _ => w b)) b y ∧ tkD a (gvD d r w) b y = tkD a (gvD d r (fun _ => w b)) b y := fun y => gv_w rfl
  have e2 : ∀ y, lkD a (gvD d r (fun i => if i = b then k' else w i)) b y = lkD a (gvD d r (fun _ => k')) b y ∧ tkD a (gvD d r (fun i => if i = b then k' else w i)) b y = tkD a (gvD d r (fun _ => k')) b y := fun y => gv_w (by simp)
  obtain ⟨s1, s2⟩ := h
  have hwd : wdO (lkD a (gvD d r w)) (tkD a (gvD d r w)) b r = wdO (lkD a (gvD d r (fun i => if i = b then k' else w i))) (tkD a (gvD d r (fun i => if i = b then k' else w i))) b r := by
    have t1 : wdO (lkD a (gvD d r w)) (tkD a (gvD d r w)) b r = wdO (lkD a (gvD d r (fun _ => w b))) (tkD a (gvD d r (fun _ => w b))) b r := by unfold wdO; rw [(e1 r).1, (e1 r).2]
    have t2 : wdO (lkD a (gvD d r (fun i => if i = b then k' else w i))) (tkD a (gvD d r (fun i => if i = b then k' else w i))) b r = wdO (lkD a (gvD d r (fun _ => k'))) (tkD a (gvD d r (fun _ => k'))) b r := by unfold wdO; rw [(e2 r).1, (e2 r).2]
    rw [t1, t2]
    unfold rkL at s1
    cases q1 : wdO (lkD a (gvD d r (fun _ => w b))) (tkD a (gvD d r (fun _ => w b))) b r
    · cases q2 : wdO (lkD a (gvD d r (fun _ => k'))) (tkD a (gvD d r (fun _ => k'))) b r
      · rfl
      · rw [q1, q2] at s1; simp at s1
    · cases q2 : wdO (lkD a (gvD d r (fun _ => k'))) (tkD a (gvD d r (fun _ => k'))) b r
      · rw [q1, q2] at s1; simp at s1
      · rfl
  have hset : wdO (lkD a (gvD d r w)) (tkD a (gvD d r w)) b r = true → ∀ o, o < nR a → ((pbO (lkD a (gvD d r w)) b r < pbO (lkD a (gvD d r w)) b o) ↔ (pbO (lkD a (gvD d r (fun i => if i = b then k' else w i))) b r < pbO (lkD a (gvD d r (fun i => if i = b then k' else w i))) b o)) := fun q o ho' => by
    have q' := q
    rw [hwd] at q'
    have t1 : wdO (lkD a (gvD d r (fun _ => w b))) (tkD a (gvD d r (fun _ => w b))) b r = true := by rw [← q]; unfold wdO; rw [(e1 r).1, (e1 r).2]
    have t2 : wdO (lkD a (gvD d r (fun _ => k'))) (tkD a (gvD d r (fun _ => k'))) b r = true := by rw [← q']; unfold wdO; rw [(e2 r).1, (e2 r).2]
    unfold rkL at s1
    rw [if_pos t1, if_pos t2] at s1
    have s1 := Option.some.inj s1
    unfold rkO at s1
    have p1 : ∀ y, pbO (lkD a (gvD d r w)) b y = pbO (lkD a (gvD d r (fun _ => w b))) b y := fun y => by unfold pbO; rw [(e1 y).1]
    have p2 : ∀ y, pbO (lkD a (gvD d r (fun i => if i = b then k' else w i))) b y = pbO (lkD a (gvD d r (fun _ => k'))) b y := fun y => by unfold pbO; rw [(e2 y).1]
    have p3 : ∀ y, ¬ y = r → pbO (lkD a (gvD d r (fun _ => w b))) b y = pbO (lkD a (gvD d r (fun _ => k'))) b y := fun y hne => by rw [← p1, ← p2]; unfold pbO; rw [(hy y hne).1]
    have key := rank_set s1 (by
      by_cases c : pbO (lkD a (gvD d r (fun _ => k'))) b r ≤ pbO (lkD a (gvD d r (fun _ => w b))) b r
      · left
        intro o' ho' hp
        rw [decide_eq_true_eq] at hp ⊢
        by_cases e : o' = r
        · subst e; omega
        · rw [← p3 o' e]; omega
      · right
        intro o' ho' hp
        rw [decide_eq_true_eq] at hp ⊢
        by_cases e : o' = r
        · subst e; omega
        · rw [p3 o' e]; omega) o ho'
    rw [p1, p1, p2, p2]
    have := decide_eq_decide.mp key
    exact this
  refine ⟨fun x y hx hy' => ?_, fun x y y' hx hy1 hy2 w1 w2 => ?_, fun x x' y hx hx' hy1 w1 w2 => ?_⟩
  · by_cases q : x = b
    · subst q
      by_cases q2 : y = r
      · subst q2; exact hwd
      · unfold wdO; rw [(hy y q2).1, (hy y q2).2]
    · unfold wdO; rw [(ho x y q).1, (ho x y q).2]
  · by_cases q : x = b
    · subst q
      by_cases k1 : y = r
      · subst k1
        by_cases k2 : y' = y
        · subst k2; omega
        · exact hset w1 y' hy2
      · by_cases k2 : y' = r
        · subst k2
          have := hset w2 y hy1
          have i1 : ¬ pbO (lkD a (gvD d y' w)) x y = pbO (lkD a (gvD d y' w)) x y' := fun z => k1 (pbO_inj (by omega) (by omega) z)
          have i2 : ¬ pbO (lkD a (gvD d y' (fun i => if i = x then k' else w i))) x y = pbO (lkD a (gvD d y' (fun i => if i = x then k' else w i))) x y' := fun z => k1 (pbO_inj (by omega) (by omega) z)
          omega
        · unfold pbO; rw [(hy y k1).1, (hy y' k2).1]
    · unfold pbO; rw [(ho x y q).1, (ho x y' q).1]
  · have key : ∀ x, wdO (lkD a (gvD d r w)) (tkD a (gvD d r w)) x y = true → prO (tkD a (gvD d r w)) x y = prO (tkD a (gvD d r (fun i => if i = b then k' else w i))) x y := fun x wx => by
      unfold prO
      by_cases q : x = b
      · subst q
        by_cases k1 : y = r
        · subst k1
          rcases s2 with s2 | s2
          · exfalso
            have t1 : wdO (lkD a (gvD d y (fun _ => w x))) (tkD a (gvD d y (fun _ => w x))) x y = true := by rw [← wx]; unfold wdO; rw [(e1 y).1, (e1 y).2]
            unfold rkL at s2
            rw [if_pos t1] at s2
            cases s2
          · rw [(e1 y).2, (e2 y).2, s2]
        · rw [(hy y k1).2]
      · rw [(ho x y q).2]
    rw [key x w1, key x' w2]
/-- the first vector of gifts, in the order of becks -/
def fs (e : (Nat → Nat) → Bool) (had : Nat → Nat) : Nat → Nat → Nat → (Nat → Nat) → Option (Nat → Nat)
  | 0, _, left, w => if left = 0 ∧ e w = true then some w else none
  | k + 1, b, left, w => (List.range (min left (9 - had b) + 1)).findSome? (fun n => fs e had k (b + 1) (left - n) (fun i => if i = b then n else w i))
def sm (w : Nat → Nat) (b : Nat) : Nat → Nat
  | 0 => 0
  | k + 1 => w b + sm w (b + 1) k
theorem sm_congr {w w' : Nat → Nat} : ∀ {k b : Nat}, (∀ i, b ≤ i → i < b + k → w i = w' i) → sm w b k = sm w' b k
  | 0, _, _ => rfl
  | k + 1, b, h => by simp only [sm]; rw [h b (by omega) (by omega), sm_congr (k := k) (b := b + 1) (fun i h1 h2 => h i (by omega) (by omega))]
theorem fs_some {e : (Nat → Nat) → Bool} {had : Nat → Nat} : ∀ {k b left : Nat} {w w' : Nat → Nat}, fs e had k b left w = some w' → (∀ i, i < b ∨ b + k ≤ i → w' i = w i) ∧ (∀ i, b ≤ i → i < b + k → w' i ≤ 9 - had i) ∧ sm w' b k = left ∧ e w' = true
  | 0, b, left, w, w', h => by
    simp only [fs] at h
    by_cases q : left = 0 ∧ e w = true
    · rw [if_pos q] at h
      cases h
      exact ⟨fun _ _ => rfl, fun i h1 h2 => by omega, q.1.symm, q.2⟩
    · rw [if_neg q] at h; cases h
  | k + 1, b, left, w, w', h => by
    simp only [fs] at h
    obtain ⟨n, hn, hf⟩ := List.exists_of_findSome?_eq_some h
    rw [List.mem_range] at hn
    obtain ⟨h1, h2, h3, h4⟩ := fs_some hf
    have hb : w' b = n := by rw [h1 b (Or.inl (by omega))]; simp
    refine ⟨fun i hi => ?_, fun i i1 i2 => ?_, ?_, h4⟩
    · rw [h1 i (by omega)]
      simp [show ¬ i = b by omega]
    · by_cases q : i = b
      · subst q; rw [hb]; omega
      · exact h2 i (by omega) (by omega)
    · simp only [sm]
      rw [h3, hb]
      omega
theorem fs_none {e : (Nat → Nat) → Bool} {had : Nat → Nat} : ∀ {k b left : Nat} {w : Nat → Nat}, fs e had k b left w = none → ∀ w', (∀ i, i < b ∨ b + k ≤ i → w' i = w i) → (∀ i, b ≤ i → i < b + k → w' i ≤ 9 - had i) → sm w' b k = left → e w' = false
  | 0, b, left, w, h, w', h1, h2, h3 => by
    simp only [fs] at h
    have ew : w' = w := funext (fun i => h1 i (by omega))
    simp only [sm] at h3
    cases q : e w'
    · rfl
    · rw [if_pos ⟨h3.symm, by rw [← ew]; exact q⟩] at h; cases h
  | k + 1, b, left, w, h, w', h1, h2, h3 => by
    simp only [fs] at h
    rw [List.findSome?_eq_none_iff] at h
    simp only [sm] at h3
    have hb := h2 b (Nat.le_refl _) (by omega)
    have := h (w' b) (by rw [List.mem_range]; omega)
    refine fs_none this w' (fun i hi => ?_) (fun i i1 i2 => h2 i (by omega) (by omega)) (by omega)
    by_cases q : i = b
    · subst q; simp
    · simp only [q, if_false]; exact h1 i (by omega)
theorem sm_put {w : Nat → Nat} {x f : Nat} : ∀ {k b : Nat}, b ≤ x → x < b + k → f < w x → sm (fun i => if i = x then f else w i) b k < sm w b k
  | 0, b, h1, h2, _ => by omega
  | k + 1, b, h1, h2, h3 => by
    simp only [sm]
    by_cases q : x = b
    · subst q
      rw [if_pos rfl, sm_congr (w := fun i => if i = x then f else w i) (w' := w) (fun i i1 _ => by simp [show ¬ i = x by omega])]
      omega
    · rw [if_neg (fun e => q e.symm)]
      have := sm_put (w := w) (f := f) (k := k) (b := b + 1) (by omega) (by omega) h3
      omega
/-- among the least none has gifts that change nothing against fewer -/
theorem least_new {a : Ln} {d : Dt} {r en N : Nat} {e : (Nat → Nat) → Bool} (ha : okLn a) (hr : r < nR a) (he : ∀ w, e w = true ↔ E a d r en w) (hno : ∀ n, n < N → fs e (fun b => dG d b r) (nB a) 0 n (fun _ => 0) = none) {w : Nat → Nat} (hz : ∀ i, nB a ≤ i → w i = 0) (hv : ∀ i, i < nB a → w i ≤ 9 - dG d i r) (hs : sm w 0 (nB a) = N) (hw : e w = true) : ∀ b, b < nB a → ∀ f, f < w b → ¬ same a d r b (w b) f := by
  intro b hb f hf hsame
  have h1 := sm_put (w := w) (f := f) (k := nB a) (b := 0) (Nat.zero_le _) (by omega) hf
  have h2 := fs_none (hno _ (by rw [← hs]; exact h1)) (fun i => if i = b then f else w i) (fun i hi => by
    rcases hi with hi | hi
    · omega
    · simp only [show ¬ i = b by omega, if_false]; exact hz i (by omega)) (fun i _ hi => by
    by_cases q : i = b
    · subst q; simp only [if_true]; have := hv i hb; omega
    · simp only [q, if_false]; exact hv i (by omega)) rfl
  have h3 := (he _).mpr (((he _).mp hw).like (same_like ha hr hsame))
  rw [h2] at h3
  cases h3
