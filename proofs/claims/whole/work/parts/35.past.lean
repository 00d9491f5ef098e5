/-! ===== what was: the ring of the class, the rows of the reference ===== -/
theorem cp_at (mi : TMi) (a b n : Nat) : cpF mi a b 0 0 n b = fun k => if k < n then mi a k else mi b k := by
  funext k
  show (if b = b then va_cpy (mi a) (mi b) 0 0 n else mi b) k = _
  rw [if_pos rfl]
  unfold va_cpy
  simp
theorem cp_ne (mi : TMi) (a b s p n : Nat) {m : Nat} (h : m ≠ b) : cpF mi a b s p n m = mi m := by simp [cpF, upF, h]
theorem Fr_cp (mi : TMi) (a b s p n : Nat) : Fr [b] mi (cpF mi a b s p n) := fun m hm => cp_ne mi a b s p n (by simpa using hm)
theorem Cs.ext {g g' : Nat → Int32} {d : Dt} (h : Cs g d) (e : ∀ k, k < 40 → g' k = g k) : Cs g' d := ⟨fun b hb => by rw [e _ (by omega)]; exact h.1 b hb, fun b hb => by rw [e _ (by omega)]; exact h.2.1 b hb, fun r hr => by rw [e _ (by omega)]; exact h.2.2.1 r hr, fun b r hb hr => by rw [e _ (by omega)]; exact h.2.2.2 b r hb hr⟩
theorem Cr.ext {g g' : Nat → Int32} {d : Dt} (h : Cr g d) (e : ∀ k, k < 40 → g' k = g k) : Cr g' d := ⟨fun b hb => by rw [e _ (by omega)]; exact h.1 b hb, fun b hb => by rw [e _ (by omega)]; exact h.2.1 b hb, fun r hr => by rw [e _ (by omega)]; exact h.2.2.1 r hr, fun b r hb hr => by rw [e _ (by omega)]; exact h.2.2.2 b r hb hr⟩
def PsC (mi : TMi) (hs : List Dt) : Prop := hs.length ≤ 10 ∧ ∃ nx, mi 42 2 = nI nx ∧ nx < 10 ∧ mi 42 3 = nI hs.length ∧ ∀ j d, hs[j]? = some d → Cs (mi (44 + (nx + 9 - j) % 10)) d
def PsR (g : Nat → Int32) (hs : List Dt) : Prop := g 69 = nI hs.length ∧ ∀ j d, hs[j]? = some d → Cr (fun k => g (70 + 40 * (hs.length - 1 - j) + k)) d
theorem PsC.fr {mi mi' : TMi} {hs : List Dt} (h : PsC mi hs) (e : ∀ n, 42 ≤ n → n < 54 → mi' n = mi n) : PsC mi' hs := by
  obtain ⟨h0, nx, h1, h2, h3, h4⟩ := h
  refine ⟨h0, nx, by rw [e 42 (by decide) (by decide)]; exact h1, h2, by rw [e 42 (by decide) (by decide)]; exact h3, fun j d hd => ?_⟩
  rw [e _ (by omega) (by omega)]
  exact h4 j d hd
theorem PsR.fr {g g' : Nat → Int32} {hs : List Dt} (hl : hs.length ≤ 10) (h : PsR g hs) (e : ∀ k, 69 ≤ k → k < 470 → g' k = g k) : PsR g' hs := by
  refine ⟨by rw [e 69 (by decide) (by decide)]; exact h.1, fun j d hd => (h.2 j d hd).ext (fun k hk => e _ (by omega) ?_)⟩
  have : j < hs.length := by
    have := List.getElem?_eq_some_iff.mp hd
    exact this.1
  omega
theorem mr43 (z : Nat) : ∀ {k : Nat}, k < 10 → MR z 43 k = 44 + k := by
  intro k hk
  match k, hk with
  | 0, _ => rfl
  | 1, _ => rfl
  | 2, _ => rfl
  | 3, _ => rfl
  | 4, _ => rfl
  | 5, _ => rfl
  | 6, _ => rfl
  | 7, _ => rfl
  | 8, _ => rfl
  | 9, _ => rfl
theorem shR : ∀ k, k < 10 → SH[44 + k]? = some (.inr (0, 40)) ∧ a_len (st (fun _ _ => 0) (fun _ _ => 0) 0) (44 + k) = 40 := by
  intro k hk
  match k, hk with
  | 0, _ => exact ⟨rfl, rfl⟩
  | 1, _ => exact ⟨rfl, rfl⟩
  | 2, _ => exact ⟨rfl, rfl⟩
  | 3, _ => exact ⟨rfl, rfl⟩
  | 4, _ => exact ⟨rfl, rfl⟩
  | 5, _ => exact ⟨rfl, rfl⟩
  | 6, _ => exact ⟨rfl, rfl⟩
  | 7, _ => exact ⟨rfl, rfl⟩
  | 8, _ => exact ⟨rfl, rfl⟩
  | 9, _ => exact ⟨rfl, rfl⟩
theorem rem_k : ∀ k, k < 21 → a_rem (nI k) 10 = nI (k % 10) := by decide +kernel
theorem min10 : ∀ k, k < 11 → (if nI k + 1 > 10 then (10 : Int32) else nI k + 1) = nI (min (k + 1) 10) := by decide +kernel
theorem c_look {l : Launch} {h : Nat} {mi : TMi} {ml : TMl} {z : Nat} {d : Dt} {Q : TMi → TMl → Nat → Prop} (hc : Cs (mi 27) d) (hq : ∀ mi', Fr [54] mi mi' → Cs (mi' 54) d → Q mi' ml z) : CV l (h + 1) m_Pa_look [.ref 42, .ref 27] mi ml z Q := by
  refine t_Pa_look mi ml z (hq _ (Fr_cp _ _ _ _ _ _) ?_)
  rw [cp_at]
  exact hc.ext (fun k hk => by simp [hk])
theorem c_keep {l : Launch} {h : Nat} {mi : TMi} {ml : TMl} {z : Nat} {d : Dt} {hs : List Dt} {Q : TMi → TMl → Nat → Prop} (hp : PsC mi hs) (hc : Cs (mi 54) d) (hq : ∀ mi', (∀ n, n < 42 ∨ 54 ≤ n ∨ n = 43 → mi' n = mi n) → PsC mi' ((d :: hs).take 10) → Q mi' ml z) : CV l (h + 2) m_Pa_keep [.ref 42] mi ml z Q := by
  obtain ⟨h0, nx, h1, h2, h3, h4⟩ := hp
  refine t_Pa_keep mi ml z ?_
  have e1 : MR z 43 ((mi 42 2).toNatClampNeg) = 44 + nx := by rw [h1, cl_nI (by omega)]; exact mr43 z h2
  obtain ⟨s1, s2⟩ := shR nx h2
  rw [e1, s2]
  have u1 : ∀ x, (cpF mi 54 (44 + nx) 0 0 40) 42 x = mi 42 x := fun x => by rw [cp_ne _ _ _ _ _ _ (by omega)]
  have u2 : (up (cpF mi 54 (44 + nx) 0 0 40) 42 2 (a_rem (((cpF mi 54 (44 + nx) 0 0 40) 42 2) + 1) 10)) 42 3 = mi 42 3 := by rw [up_nk _ _ _ (by decide), u1]
  rw [u2, u1, h1, h3, min10 _ (by omega), nI_1, rem_k _ (by omega)]
  refine ⟨in_nI h2 (by decide), by omega, s1, by decide, hq _ (fun n hn => ?_) ?_⟩
  · rw [up_ne _ _ _ (by omega), up_ne _ _ _ (by omega), cp_ne _ _ _ _ _ _ (by omega)]
  · refine ⟨by simp; omega, (nx + 1) % 10, ?_, Nat.mod_lt _ (by decide), ?_, fun j d' hd' => ?_⟩
    · rw [up_nk _ _ _ (by decide), up_at]
    · rw [up_at, List.length_take, List.length_cons, Nat.min_comm]
    · rw [up_ne _ _ _ (by omega), up_ne _ _ _ (by omega)]
      have hj : j < 10 := by
        have := (List.getElem?_eq_some_iff.mp hd').1
        simp at this
        omega
      rw [List.getElem?_take, if_pos hj] at hd'
      cases j with
      | zero =>
        simp at hd'
        subst hd'
        rw [show ((nx + 1) % 10 + 9 - 0) % 10 = nx by omega, cp_at]
        exact hc.ext (fun k hk => by simp [hk])
      | succ j =>
        simp at hd'
        have hne : 44 + ((nx + 1) % 10 + 9 - (j + 1)) % 10 ≠ 44 + nx := by omega
        rw [cp_ne _ _ _ _ _ _ hne, show ((nx + 1) % 10 + 9 - (j + 1)) % 10 = (nx + 9 - j) % 10 by omega]
        exact h4 j d' hd'
theorem c_bringBack {l : Launch} {h : Nat} {mi : TMi} {ml : TMl} {z : Nat} {d : Dt} {n : Nat} {hs : List Dt} {Q : TMi → TMl → Nat → Prop} (hp : PsC mi hs) (hn : 0 < n) (hd : hs[n - 1]? = some d) (hq : ∀ mi', Fr [27, 42] mi mi' → Cs (mi' 27) d → PsC mi' (hs.drop n) → Q mi' ml z) : CV l (h + 1) m_Pa_bringBack [.ref 42, .int (nI n), .ref 27] mi ml z Q := by
  obtain ⟨h0, nx, h1, h2, h3, h4⟩ := hp
  have hlt := (List.getElem?_eq_some_iff.mp hd).1
  have k1 : nI nx + 10 - nI n = nI (nx + 10 - n) := by
    have : ∀ x, x < 10 → ∀ n, n < 11 → nI x + 10 - nI n = nI (x + 10 - n) := by decide +kernel
    exact this nx h2 n (by omega)
  have k2 : nI hs.length - nI n = nI (hs.length - n) := by
    have : ∀ x, x < 11 → ∀ n, n < 11 → n ≤ x → nI x - nI n = nI (x - n) := by decide +kernel
    exact this _ (by omega) n (by omega) (by omega)
  refine t_Pa_bringBack mi ml z _ ⟨fun c => ?_, fun _ => ⟨fun _ => ?_, fun c => ?_⟩⟩
  · rw [i32_lt1, nI_toInt (by omega)] at c
    omega
  · rw [h1, k1, rem_k _ (by omega)]
    have u3 : up mi 42 2 (nI ((nx + 10 - n) % 10)) 42 3 = nI hs.length := by rw [up_nk _ _ _ (by decide), h3]
    rw [u3, k2]
    have u2 : up (up mi 42 2 (nI ((nx + 10 - n) % 10))) 42 3 (nI (hs.length - n)) 42 2 = nI ((nx + 10 - n) % 10) := by rw [up_nk _ _ _ (by decide), up_at]
    have hx : (nx + 10 - n) % 10 < 10 := Nat.mod_lt _ (by decide)
    rw [u2, cl_nI (by omega), mr43 z hx]
    obtain ⟨s1, s2⟩ := shR _ hx
    rw [s2]
    refine ⟨in_nI hx (by decide), by omega, s1, by decide, hq _ (fun m hm => ?_) ?_ ?_⟩
    · simp at hm
      rw [cp_ne _ _ _ _ _ _ hm.1, up_ne _ _ _ hm.2, up_ne _ _ _ hm.2]
    · rw [cp_at]
      have := h4 (n - 1) d hd
      rw [show (nx + 9 - (n - 1)) % 10 = (nx + 10 - n) % 10 by omega] at this
      refine this.ext (fun k hk => ?_)
      rw [if_pos hk, up_ne _ _ _ (by omega), up_ne _ _ _ (by omega)]
    · refine ⟨by simp; omega, (nx + 10 - n) % 10, ?_, hx, ?_, fun j d' hd' => ?_⟩
      · rw [cp_ne _ _ _ _ _ _ (by decide), u2]
      · rw [cp_ne _ _ _ _ _ _ (by decide), up_at]; simp
      · rw [List.getElem?_drop] at hd'
        have := h4 (n + j) d' hd'
        have hl2 := (List.getElem?_eq_some_iff.mp hd').1
        rw [cp_ne _ _ _ _ _ _ (by omega), up_ne _ _ _ (by omega), up_ne _ _ _ (by omega), show ((nx + 10 - n) % 10 + 9 - j) % 10 = (nx + 9 - (n + j)) % 10 by omega]
        exact this
  · exfalso; apply c
    rw [h3]
    exact nI_le (by omega) (by omega)
theorem c_keeps {l : Launch} {h : Nat} {mi : TMi} {ml : TMl} {z : Nat} {d : Dt} {Q : TMi → TMl → Nat → Prop} (hc : CrA mi d) (hq : ∀ mi', Fr [128] mi mi' → Cr (mi' 128) d → Q mi' ml z) : CV l (h + 1) m_R_keeps [.ref 119] mi ml z Q := by
  refine t_R_keeps mi ml z ?_
  refine loop (P := fun i => ∀ m, Fr [128] mi m → (∀ k, k < i → m 128 k = mi 120 (29 + k)) → Ev l (h + 1) m_R_keeps 2 ([.ref 119, .int (nI i)], [], st m ml z) (qV Q)) 40 (fun m F hk => ?_) (fun i hi ih m F hk => ?_) mi (Fr.refl _ _) (fun k hk => absurd hk (Nat.not_lt_zero _))
  · exact t_R_keeps_2 m ml z _ ⟨fun _ => hq m F (hc.ext hk), fun c => absurd (by decide) c⟩
  · refine t_R_keeps_2 m ml z _ ⟨fun c => absurd c (ge_no (N := 40) rfl (by decide) hi), fun _ => ⟨in_addL (a := 29) (by omega) (by decide), in_nI hi (by decide), ?_⟩⟩
    rw [addL_cl 29 i (by omega), cl_nI (by omega), nI_1, F 120 (by decide)]
    refine ih _ (F.step (Fr_up _ _ _ _)) (fun k hk' => ?_)
    by_cases e : k = i
    · subst e; rw [up_at]
    · rw [up_nk _ _ _ e]; exact hk k (by omega)
theorem c_isAgain {l : Launch} {h : Nat} {mi : TMi} {ml : TMl} {z : Nat} {d : Dt} {Q : TMi → TMl → Nat → Prop} (hc : Cr (mi 128) d) (hq : ∀ mi', Fr [120] mi mi' → F120 mi mi' → CrA mi' d → Q mi' ml z) : CV l (h + 1) m_R_isAgain [.ref 119] mi ml z Q := by
  refine t_R_isAgain mi ml z ?_
  refine loop (P := fun i => ∀ m, Fr [120] mi m → F120 mi m → (∀ k, k < i → m 120 (29 + k) = mi 128 k) → Ev l (h + 1) m_R_isAgain 2 ([.ref 119, .int (nI i)], [], st m ml z) (qV Q)) 40 (fun m F F2 hk => ?_) (fun i hi ih m F F2 hk => ?_) mi (Fr.refl _ _) (fun _ _ => rfl) (fun k hk => absurd hk (Nat.not_lt_zero _))
  · exact t_R_isAgain_2 m ml z _ ⟨fun _ => hq m F F2 (hc.ext hk), fun c => absurd (by decide) c⟩
  · refine t_R_isAgain_2 m ml z _ ⟨fun c => absurd c (ge_no (N := 40) rfl (by decide) hi), fun _ => ⟨in_nI hi (by decide), in_addL (a := 29) (by omega) (by decide), ?_⟩⟩
    rw [addL_cl 29 i (by omega), cl_nI (by omega), nI_1, F 128 (by decide)]
    refine ih _ (F.step (Fr_up _ _ _ _)) (F2.trans (F120.u _ _ hi)) (fun k hk' => ?_)
    by_cases e : k = i
    · subst e; rw [up_at]
    · rw [up_nk _ _ _ (by omega)]; exact hk k (by omega)
