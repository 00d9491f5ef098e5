/-! ===== the grammar of laws, as a function; code of the class, code of the reference ===== -/
abbrev FF : Type := (Nat → Int32) → Int32
noncomputable def pz (tp : Nat → Nat) (n : Nat) : Nat → Nat → Nat → PS → FF → PS × FF
  | 0, _, _, s, a => (s, a)
  | f + 1, 0, d, s, a => pz tp n f 6 d (pz tp n f 1 d s a).1 (pz tp n f 1 d s a).2
  | f + 1, 1, d, s, a => pz tp n f 7 d (pz tp n f 2 d s a).1 (pz tp n f 2 d s a).2
  | f + 1, 2, d, s, a =>
    if zSees 21 s then (zAdv tp n s, fun _ => nI (zV s))
    else if zF s = 0 ∧ 1 ≤ zK s ∧ zK s ≤ 6 then (zAdv tp n s, fun W => W (zK s - 1))
    else if zSees 40 s then (if d < 6 then (zXp tp n 41 (pz tp n f 0 (d + 1) (zAdv tp n s) a).1, (pz tp n f 0 (d + 1) (zAdv tp n s) a).2) else (zRf 4 s, a))
    else if zSees 13 s then (if d < 6 then pz tp n f 10 (d + 1) (zAdv tp n s) a else (zRf 4 s, a))
    else (zRf 2 s, a)
  | f + 1, 3, d, s, a => pz tp n f 8 d (pz tp n f 4 d s a).1 (pz tp n f 4 d s a).2
  | f + 1, 4, d, s, a => pz tp n f 9 d (pz tp n f 5 d s a).1 (pz tp n f 5 d s a).2
  | f + 1, 5, d, s, a =>
    if zSees 17 s then (if d < 6 then ((pz tp n f 5 (d + 1) (zAdv tp n s) a).1, fun W => 1 - (pz tp n f 5 (d + 1) (zAdv tp n s) a).2 W) else (zRf 4 s, a))
    else if zSees 91 s then (if d < 6 then (zXp tp n 93 (pz tp n f 3 (d + 1) (zAdv tp n s) a).1, (pz tp n f 3 (d + 1) (zAdv tp n s) a).2) else (zRf 4 s, a))
    else pz tp n f 11 d (pz tp n f 0 d s a).1 (pz tp n f 0 d s a).2
  | f + 1, 6, d, s, a =>
    if zSees 43 s then pz tp n f 6 d (pz tp n f 1 d (zAdv tp n s) a).1 (fun W => opV 3000 (a W) ((pz tp n f 1 d (zAdv tp n s) a).2 W))
    else if zSees 45 s then pz tp n f 6 d (pz tp n f 1 d (zAdv tp n s) a).1 (fun W => opV 3001 (a W) ((pz tp n f 1 d (zAdv tp n s) a).2 W))
    else (s, a)
  | f + 1, 7, d, s, a => if zSees 42 s then pz tp n f 7 d (pz tp n f 2 d (zAdv tp n s) a).1 (fun W => opV 3002 (a W) ((pz tp n f 2 d (zAdv tp n s) a).2 W)) else (s, a)
  | f + 1, 8, d, s, a => if zSees 19 s then pz tp n f 8 d (pz tp n f 4 d (zAdv tp n s) a).1 (fun W => opV 3008 (a W) ((pz tp n f 4 d (zAdv tp n s) a).2 W)) else (s, a)
  | f + 1, 9, d, s, a => if zSees 18 s then pz tp n f 9 d (pz tp n f 5 d (zAdv tp n s) a).1 (fun W => opV 3007 (a W) ((pz tp n f 5 d (zAdv tp n s) a).2 W)) else (s, a)
  | f + 1, 10, d, s, a =>
    let t := pz tp n f 3 d s a
    let u := pz tp n f 0 d (zXp tp n 14 t.1) a
    let v := pz tp n f 0 d (zXp tp n 15 u.1) a
    (zXp tp n 16 v.1, fun W => if t.2 W = 1 then u.2 W else v.2 W)
  | f + 1, 11, d, s, a =>
    let o : Int32 := if zSees 61 s then 3003 else if zSees 60 s then 3004 else 3005
    let s1 := if zSees 61 s ∨ zSees 60 s ∨ zSees 62 s then zAdv tp n s else zRf 2 s
    ((pz tp n f 0 d s1 a).1, fun W => opV o (a W) ((pz tp n f 0 d s1 a).2 W))
  | _ + 1, _, _, s, a => (s, a)
def wt (m : Nat) : Nat := [5, 3, 1, 11, 9, 7, 4, 2, 10, 8, 12, 6].getD m 0
theorem op_60 (x y : Int32) : opC 6000 x y = opV 3000 x y := rfl
theorem op_70 (x y : Int32) : opC 7000 x y = opV 3001 x y := rfl
theorem op_80 (x y : Int32) : opC 8000 x y = opV 3002 x y := rfl
theorem op_90 (x y : Int32) : opC 9000 x y = opV 3003 x y := rfl
theorem op_100 (x y : Int32) : opC 10000 x y = opV 3004 x y := rfl
theorem op_110 (x y : Int32) : opC 11000 x y = opV 3005 x y := rfl
theorem op_120 (x y : Int32) : opC 12000 x y = opV 3007 x y := rfl
theorem op_130 (x y : Int32) : opC 13000 x y = opV 3008 x y := rfl
def bdF (f : FF) : Prop := ∀ W, okW W → -1000000 ≤ (f W).toInt ∧ (f W).toInt ≤ 1000000
def trF (f : FF) : Prop := ∀ W, okW W → f W = 0 ∨ f W = 1
theorem trF.bd {f : FF} (h : trF f) : bdF f := fun W hW => by
  rcases h W hW with e | e <;> rw [e] <;> decide
theorem bI_tr (p : Bool) : bI p = 0 ∨ bI p = 1 := by cases p <;> decide
theorem ofI_ck (x : Int) : -1000000 ≤ (Int32.ofInt (ck x)).toInt ∧ (Int32.ofInt (ck x)).toInt ≤ 1000000 := by
  have h := ck_bd x
  rw [Int32.toInt_ofInt, show Int32.size = 4294967296 from rfl, Int.bmod_eq_of_le (by omega) (by omega)]
  exact h
theorem bd_0 (a b : FF) : bdF (fun W => opV 3000 (a W) (b W)) := fun W _ => ofI_ck _
theorem bd_1 (a b : FF) : bdF (fun W => opV 3001 (a W) (b W)) := fun W _ => ofI_ck _
theorem bd_2 (a b : FF) : bdF (fun W => opV 3002 (a W) (b W)) := fun W _ => ofI_ck _
theorem tr_3 (a b : FF) : trF (fun W => opV 3003 (a W) (b W)) := fun W _ => bI_tr _
theorem tr_4 (a b : FF) : trF (fun W => opV 3004 (a W) (b W)) := fun W _ => bI_tr _
theorem tr_5 (a b : FF) : trF (fun W => opV 3005 (a W) (b W)) := fun W _ => bI_tr _
theorem tr_7 {a b : FF} (ha : trF a) (hb : trF b) : trF (fun W => opV 3007 (a W) (b W)) := fun W hW => by
  show (a W) &&& (b W) = 0 ∨ (a W) &&& (b W) = 1
  rcases ha W hW with e | e <;> rcases hb W hW with k | k <;> rw [e, k] <;> decide
theorem tr_8 {a b : FF} (ha : trF a) (hb : trF b) : trF (fun W => opV 3008 (a W) (b W)) := fun W hW => by
  show (a W) ||| (b W) = 0 ∨ (a W) ||| (b W) = 1
  rcases ha W hW with e | e <;> rcases hb W hW with k | k <;> rw [e, k] <;> decide
theorem tr_6 {a : FF} (ha : trF a) : trF (fun W => 1 - a W) := fun W hW => by
  show 1 - a W = 0 ∨ 1 - a W = 1
  rcases ha W hW with e | e <;> rw [e] <;> decide
/-- a piece of the class's code, from s to e, that puts down f's value and needs d cells -/
def CS (g : Nat → Int32) (s e d : Nat) (f : FF) : Prop := s ≤ e ∧ bdF f ∧ (∀ j, s ≤ j → j < e → ∃ v : Nat, g j = nI v ∧ v < 14000) ∧ ∀ c : Nat → Nat, (∀ j, s ≤ j → j < e → g j = nI (c j) ∧ c j < 14000) → ∀ W, okW W → ∀ stk : List Int32, stk.length + d ≤ 64 → ∃ t, t ≤ e - s ∧ cit W c t (s, stk) = some (e, f W :: stk)
theorem CS.mono {g : Nat → Int32} {s e d d' : Nat} {f : FF} (h : CS g s e d f) (hd : d ≤ d') : CS g s e d' f := ⟨h.1, h.2.1, h.2.2.1, fun c hc W hW stk hs => h.2.2.2 c hc W hW stk (by omega)⟩
theorem CS.fr {g g' : Nat → Int32} {s e d : Nat} {f : FF} (h : CS g s e d f) (k : ∀ j, s ≤ j → j < e → g' j = g j) : CS g' s e d f := ⟨h.1, h.2.1, fun j h1 h2 => by rw [k j h1 h2]; exact h.2.2.1 j h1 h2, fun c hc W hW stk hs => h.2.2.2 c (fun j h1 h2 => by rw [← k j h1 h2]; exact hc j h1 h2) W hW stk hs⟩
theorem cell_is {g : Nat → Int32} {c : Nat → Nat} {e v : Nat} (hv : v < 14000) (hg : g e = nI v) (hc : g e = nI (c e) ∧ c e < 14000) : c e = v := nI_inj (by omega) (by omega) (hc.1.symm.trans hg)
theorem CS_num {g : Nat → Int32} {s v : Nat} (hs : s < 900) (hv : v < 1000) (hg : g s = nI v) : CS g s (s + 1) 1 (fun _ => nI v) := by
  refine ⟨by omega, fun W _ => by rw [nI_toInt (by omega)]; omega, fun j h1 h2 => ⟨v, by rw [show j = s by omega]; exact hg, by omega⟩, fun c hc W hW stk hl => ⟨1, by omega, ?_⟩⟩
  have e := cell_is (by omega) hg (hc s (by omega) (by omega))
  simp only [cit, cst]
  rw [if_neg (by omega), e, if_pos hv, if_pos (by omega)]
  rfl
theorem CS_var {g : Nat → Int32} {s v : Nat} (hs : s < 900) (hv : v < 6) (hg : g s = nI (1000 + v)) : CS g s (s + 1) 1 (fun W => W v) := by
  refine ⟨by omega, fun W hW => by have := hW v hv; show -1000000 ≤ (W v).toInt ∧ (W v).toInt ≤ 1000000; omega, fun j h1 h2 => ⟨1000 + v, by rw [show j = s by omega]; exact hg, by omega⟩, fun c hc W hW stk hl => ⟨1, by omega, ?_⟩⟩
  have e := cell_is (by omega) hg (hc s (by omega) (by omega))
  simp only [cit, cst]
  rw [if_neg (by omega), e, if_neg (by omega), if_pos (by omega), if_pos (by omega), show 1000 + v - 1000 = v by omega]
  rfl
theorem CS_bin {g : Nat → Int32} {s m e d da db v : Nat} {a b f : FF} (h1 : CS g s m da a) (h2 : CS g m e db b) (hda : da ≤ d) (hdb : db + 1 ≤ d) (he : e < 900) (hv : 6000 ≤ v) (hv2 : v < 14000) (hg : g e = nI v) (hb : bdF f) (hf : ∀ W, f W = opC v (a W) (b W)) : CS g s (e + 1) d f := by
  have m1 := h1.1
  have m2 := h2.1
  refine ⟨by omega, hb, fun j j1 j2 => ?_, fun c hc W hW stk hl => ?_⟩
  · by_cases q : j < m
    · exact h1.2.2.1 j j1 q
    · by_cases q2 : j < e
      · exact h2.2.2.1 j (by omega) q2
      · exact ⟨v, by rw [show j = e by omega]; exact hg, hv2⟩
  · obtain ⟨t1, a1, a2⟩ := h1.2.2.2 c (fun j j1 j2 => hc j j1 (by omega)) W hW stk (by omega)
    obtain ⟨t2, b1, b2⟩ := h2.2.2.2 c (fun j j1 j2 => hc j (by omega) (by omega)) W hW (a W :: stk) (by simp only [List.length_cons]; omega)
    refine ⟨t1 + (t2 + 1), by omega, ?_⟩
    rw [cit_add, a2, Option.bind_some, cit_add, b2, Option.bind_some]
    have ec := cell_is hv2 hg (hc e (by omega) (by omega))
    have x1 := h1.2.1 W hW
    have x2 := h2.2.1 W hW
    simp only [cit, cst]
    rw [if_neg (by omega), ec, if_neg (by omega), if_neg (by omega), if_neg (by omega), if_neg (by omega), if_neg (by omega), if_neg (by omega), if_pos ⟨hv, hv2⟩, if_pos ⟨x1, x2⟩, hf]
    rfl
theorem CS_not {g : Nat → Int32} {s e d : Nat} {a : FF} (h1 : CS g s e d a) (he : e < 900) (hg : g e = nI 5000) (ht : trF a) : CS g s (e + 1) d (fun W => 1 - a W) := by
  have m1 := h1.1
  refine ⟨by omega, (tr_6 ht).bd, fun j j1 j2 => ?_, fun c hc W hW stk hl => ?_⟩
  · by_cases q : j < e
    · exact h1.2.2.1 j j1 q
    · exact ⟨5000, by rw [show j = e by omega]; exact hg, by decide⟩
  · obtain ⟨t1, a1, a2⟩ := h1.2.2.2 c (fun j j1 j2 => hc j j1 (by omega)) W hW stk hl
    refine ⟨t1 + 1, by omega, ?_⟩
    rw [cit_add, a2, Option.bind_some]
    have ec := cell_is (v := 5000) (by decide) hg (hc e (by omega) (by omega))
    simp only [cit, cst]
    rw [if_neg (by omega), ec]
    rfl
theorem CS_if {g : Nat → Int32} {s p q e d dt du dv' : Nat} {t u v : FF} (h1 : CS g s p dt t) (h2 : CS g (p + 1) q du u) (h3 : CS g (q + 1) e dv' v) (d1 : dt ≤ d) (d2 : du ≤ d) (d3 : dv' ≤ d) (he : e ≤ 900) (ht : trF t) (hp : g p = nI (3000 + (q + 1))) (hq : g q = nI (2000 + e)) : CS g s e d (fun W => if t W = 1 then u W else v W) := by
  have m1 := h1.1
  have m2 := h2.1
  have m3 := h3.1
  refine ⟨by omega, fun W hW => ?_, fun j j1 j2 => ?_, fun c hc W hW stk hl => ?_⟩
  · dsimp only
    split
    · exact h2.2.1 W hW
    · exact h3.2.1 W hW
  · by_cases k1 : j < p
    · exact h1.2.2.1 j j1 k1
    · by_cases k2 : j = p
      · exact ⟨3000 + (q + 1), by rw [k2]; exact hp, by omega⟩
      · by_cases k3 : j < q
        · exact h2.2.2.1 j (by omega) k3
        · by_cases k4 : j = q
          · exact ⟨2000 + e, by rw [k4]; exact hq, by omega⟩
          · exact h3.2.2.1 j (by omega) j2
  · obtain ⟨t1, a1, a2⟩ := h1.2.2.2 c (fun j j1 j2 => hc j j1 (by omega)) W hW stk (by omega)
    obtain ⟨t2, b1, b2⟩ := h2.2.2.2 c (fun j j1 j2 => hc j (by omega) (by omega)) W hW stk (by omega)
    obtain ⟨t3, c1, c2⟩ := h3.2.2.2 c (fun j j1 j2 => hc j (by omega) (by omega)) W hW stk (by omega)
    have ep := cell_is (by omega) hp (hc p (by omega) (by omega))
    have eq := cell_is (by omega) hq (hc q (by omega) (by omega))
    have st1 : cst W c (p, t W :: stk) = some (if t W = 0 then q + 1 else p + 1, stk) := by
      simp only [cst]
      rw [if_neg (by omega), ep, if_neg (by omega), if_neg (by omega), if_neg (by omega), if_neg (by omega), if_pos (by omega), show 3000 + (q + 1) - 3000 = q + 1 by omega]
    have st2 : ∀ k, cst W c (q, k) = some (e, k) := fun k => by
      simp only [cst]
      rw [if_neg (by omega), eq, if_neg (by omega), if_neg (by omega), if_neg (by omega), if_pos (by omega), show 2000 + e - 2000 = e by omega]
    have s1 : cit W c 1 (p, t W :: stk) = some (if t W = 0 then q + 1 else p + 1, stk) := by simp only [cit]; rw [st1]; rfl
    have s2 : cit W c 1 (q, u W :: stk) = some (e, u W :: stk) := by simp only [cit]; rw [st2]; rfl
    rcases ht W hW with z | z
    · refine ⟨t1 + (1 + t3), by omega, ?_⟩
      rw [cit_add, a2, Option.bind_some, cit_add, s1, Option.bind_some, if_pos z, c2]
      dsimp only
      rw [if_neg (by rw [z]; decide)]
    · refine ⟨t1 + (1 + (t2 + 1)), by omega, ?_⟩
      rw [cit_add, a2, Option.bind_some, cit_add, s1, Option.bind_some, if_neg (by rw [z]; decide), cit_add, b2, Option.bind_some, s2]
      dsimp only
      rw [if_pos z]
/-- a piece of the reference's code -/
def RS (g : Nat → Int32) (s e : Nat) (f : FF) : Prop := ∃ cs : List Int32, e = s + cs.length ∧ (∀ k, k < cs.length → cs[k]? = some (g (471 + s + k))) ∧ Rseg cs f
theorem rrun_app (W : Nat → Int32) : ∀ (a b s : List Int32), rrun W (a ++ b) s = (rrun W a s).bind (rrun W b)
  | [], b, s => rfl
  | c :: a, b, s => by
    simp only [List.cons_append, rrun]
    cases h : rst W c s with
    | none => rfl
    | some t => simp only [Option.bind_some]; exact rrun_app W a b t
theorem RS.fr {g g' : Nat → Int32} {s e : Nat} {f : FF} (h : RS g s e f) (k : ∀ j, s ≤ j → j < e → g' (471 + j) = g (471 + j)) : RS g' s e f := by
  obtain ⟨cs, h1, h2, h3⟩ := h
  refine ⟨cs, h1, fun j hj => ?_, h3⟩
  rw [show 471 + s + j = 471 + (s + j) by omega, k _ (by omega) (by omega), ← show 471 + s + j = 471 + (s + j) by omega]
  exact h2 j hj
theorem RS.le {g : Nat → Int32} {s e : Nat} {f : FF} (h : RS g s e f) : s ≤ e := by obtain ⟨cs, h1, _⟩ := h; omega
theorem app_at {g : Nat → Int32} {s : Nat} {a b : List Int32} (ha : ∀ k, k < a.length → a[k]? = some (g (471 + s + k))) (hb : ∀ k, k < b.length → b[k]? = some (g (471 + (s + a.length) + k))) : ∀ k, k < (a ++ b).length → (a ++ b)[k]? = some (g (471 + s + k)) := fun k hk => by
  rw [List.length_append] at hk
  by_cases c : k < a.length
  · rw [List.getElem?_append_left c]; exact ha k c
  · rw [List.getElem?_append_right (by omega), hb _ (by omega), show 471 + (s + a.length) + (k - a.length) = 471 + s + k by omega]
theorem RS_one {g : Nat → Int32} {s : Nat} {f : FF} (h : ∀ W, okW W → ∀ t, rst W (g (471 + s)) t = some (f W :: t)) : RS g s (s + 1) f := by
  refine ⟨[g (471 + s)], rfl, fun k hk => ?_, fun W hW t => ?_⟩
  · have : k = 0 := by simp at hk; omega
    rw [this]; rfl
  · simp only [rrun]
    rw [h W hW t]; rfl
theorem RS_op1 {g : Nat → Int32} {s e : Nat} {a f : FF} (h1 : RS g s e a) (h : ∀ W, okW W → ∀ t, rst W (g (471 + e)) (a W :: t) = some (f W :: t)) : RS g s (e + 1) f := by
  obtain ⟨cs, k1, k2, k3⟩ := h1
  refine ⟨cs ++ [g (471 + e)], by simp; omega, app_at k2 (fun k hk => ?_), fun W hW t => ?_⟩
  · have : k = 0 := by simp at hk; omega
    rw [this, k1]; rfl
  · rw [rrun_app, k3 W hW t, Option.bind_some]
    simp only [rrun]
    rw [h W hW t]; rfl
theorem RS_op2 {g : Nat → Int32} {s m e : Nat} {a b f : FF} (h1 : RS g s m a) (h2 : RS g m e b) (h : ∀ W, okW W → ∀ t, rst W (g (471 + e)) (b W :: a W :: t) = some (f W :: t)) : RS g s (e + 1) f := by
  obtain ⟨cs, k1, k2, k3⟩ := h1
  obtain ⟨ds, j1, j2, j3⟩ := h2
  refine ⟨cs ++ (ds ++ [g (471 + e)]), by simp; omega, app_at k2 (app_at (by rw [← k1]; exact j2) (fun k hk => ?_)), fun W hW t => ?_⟩
  · have : k = 0 := by simp at hk; omega
    rw [this, ← k1, ← j1]; rfl
  · rw [rrun_app, k3 W hW t, Option.bind_some, rrun_app, j3 W hW, Option.bind_some]
    simp only [rrun]
    rw [h W hW t]; rfl
theorem RS_op3 {g : Nat → Int32} {s m p e : Nat} {a b c f : FF} (h1 : RS g s m a) (h2 : RS g m p b) (h3 : RS g p e c) (h : ∀ W, okW W → ∀ t, rst W (g (471 + e)) (c W :: b W :: a W :: t) = some (f W :: t)) : RS g s (e + 1) f := by
  obtain ⟨cs, k1, k2, k3⟩ := h1
  obtain ⟨ds, j1, j2, j3⟩ := h2
  obtain ⟨es, i1, i2, i3⟩ := h3
  refine ⟨cs ++ (ds ++ (es ++ [g (471 + e)])), by simp; omega, app_at k2 (app_at (by rw [← k1]; exact j2) (app_at (by rw [← k1, ← j1]; exact i2) (fun k hk => ?_))), fun W hW t => ?_⟩
  · have : k = 0 := by simp at hk; omega
    rw [this, ← k1, ← j1, ← i1]; rfl
  · rw [rrun_app, k3 W hW t, Option.bind_some, rrun_app, j3 W hW, Option.bind_some, rrun_app, i3 W hW, Option.bind_some]
    simp only [rrun]
    rw [h W hW t]; rfl
theorem rst_bin {W : Nat → Int32} {c x y : Int32} {t : List Int32} (h3 : 3000 ≤ c) (h6 : ¬ c = 3006) (h9 : ¬ c = 3009) : rst W c (y :: x :: t) = some (opV c x y :: t) := by
  unfold rst
  rw [if_pos h3, if_neg h6, if_neg h9]
theorem rst_not {W : Nat → Int32} {x : Int32} {t : List Int32} : rst W 3006 (x :: t) = some ((1 - x) :: t) := rfl
theorem rst_if {W : Nat → Int32} {x y u : Int32} {t : List Int32} : rst W 3009 (u :: y :: x :: t) = some ((if x = 1 then y else u) :: t) := rfl
theorem rst_num {W : Nat → Int32} {v : Nat} {t : List Int32} (hv : v < 1000) : rst W (nI v) t = some (nI v :: t) := by
  unfold rst
  rw [if_neg (show ¬ (3000 : Int32) ≤ nI v from nI_ge (show v < 3000 by omega) (by decide)), if_neg (show ¬ (1000 : Int32) ≤ nI v from nI_ge (show v < 1000 by omega) (by decide))]
theorem rst_var {W : Nat → Int32} {v : Nat} {t : List Int32} (hv : v < 6) : rst W (nI (1000 + v)) t = some (W v :: t) := by
  unfold rst
  rw [if_neg (show ¬ (3000 : Int32) ≤ nI (1000 + v) from nI_ge (show 1000 + v < 3000 by omega) (by decide)), if_pos (show (1000 : Int32) ≤ nI (1000 + v) from nI_le (a := 1000) (by omega) (by omega)), nI_toInt (by omega), show (((1000 + v : Nat) : Int) - 1000).toNat = v by omega, if_pos hv]
