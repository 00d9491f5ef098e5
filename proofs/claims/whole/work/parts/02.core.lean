/-! ===== an abstract machine over names: objects and arrays are numbered in the order of their making ===== -/
abbrev ASh : Type := Nat ⊕ (Nat × Nat)
abbrev ASt : Type := List ASh × (Nat → Nat → Int32) × (Nat → Nat → Int64) × (Nat → Nat → Nat) × Nat × Nat
abbrev AMt : Type := MethodName × ByteArray × Nat × Option FieldType × Option (Nat × (Nat → Int32))
abbrev ARow : Type := Instr × Nat × Int32 × Int64 × Nat × Nat × Nat
abbrev ACf : Type := List Value × List Value × ASt
def a_nft : List Nat := [14, 2, 4, 4, 2, 8, 7, 14, 8, 3, 11, 19, 35]
def a_nf (ci : Nat) : Nat := a_nft.getD ci 0
def a_rft : List (List Bool) := [[false, false, false, true, true, true, true, true, true, true, true, false, false, false], [true, true], [true, true, true, true], [true, true, false, false], [true, true], [true, true, true, true, true, true, true, true], [true, true, true, false, true, false, false], [true, true, true, true, true, true, true, false, false, false, false, false, true, true], [true, false, false, false, false, false, false, false], [true, false, false], [true, true, false, false, true, true, true, true, true, false, true], [true, false, true, true, true, false, false, true, true, true, true, true, true, true, true, true, true, true, false], [false, true, true, true, true, false, false, false, false, false, false, false, false, false, false, true, true, true, true, true, false, false, false, true, true, false, true, false, true, false, false, true, true, true, true]]
def a_rf (ci k : Nat) : Bool := (a_rft.getD ci []).getD k false
/-- what a name is in the machine; 1500000: a static of the JDK's that may be null -/
def a_rv (ad : Nat → Nat) (n : Nat) : Value := if n = 1500000 then (match ad n with | 0 => .null | k + 1 => .ref k) else .ref (ad n)
def a_v (ad : Nat → Nat) (v : Value) : Value := match v with
  | .ref n => a_rv ad n
  | .int x => .int x
  | .long x => .long x
  | .float x => .float x
  | .double x => .double x
  | .null => .null
  | .retAddr x => .retAddr x
def a_rn (ad : Nat → Nat) (n : Nat) : Option Nat := if n = 0 then none else some (ad n)
def a_kt (kd : Nat) : FieldType := match kd with
  | 0 => .int
  | 1 => .byte
  | 2 => .boolean
  | 3 => .long
  | 4 => .object "BeckChoice$Scene"
  | 5 => .object "BeckChoice$Tray"
  | _ => .array .int
abbrev aMi (σ : ASt) : Nat → Nat → Int32 := σ.2.1
abbrev aMl (σ : ASt) : Nat → Nat → Int64 := σ.2.2.1
abbrev aMr (σ : ASt) : Nat → Nat → Nat := σ.2.2.2.1
abbrev aBc (σ : ASt) : Nat := σ.2.2.2.2.1
abbrev aBs (σ : ASt) : Nat := σ.2.2.2.2.2
def a_fld (ad : Nat → Nat) (σ : ASt) (n ci : Nat) : List Value := (List.range (a_nf ci)).map fun k => if a_rf ci k = true then va_rf (a_rn ad (aMr σ n k)) else .int (aMi σ n k)
def a_arr (ad : Nat → Nat) (σ : ASt) (n kd : Nat) : (Nat → Int32) ⊕ (Nat → Int64) ⊕ (Nat → UInt32) ⊕ (Nat → UInt64) ⊕ (Nat → Option Nat) :=
  if kd < 3 then .inl (aMi σ n) else if kd = 3 then .inr (.inl (aMl σ n)) else .inr (.inr (.inr (.inr (fun i => a_rn ad (aMr σ n i)))))
def a_cellOf (ad : Nat → Nat) (ac : Nat → ClassId) (σ : ASt) (n : Nat) (x : Option ASh) : va_E := match x with
  | some (.inl ci) => .inr (ci, a_fld ad σ n ci)
  | some (.inr (kd, len)) => .inl (ac n, len, a_arr ad σ n kd)
  | none => .inr (0, [])
def a_cell (ad : Nat → Nat) (ac : Nat → ClassId) (σ : ASt) (n : Nat) : va_E := a_cellOf ad ac σ n (σ.1[n]?)
def a_ws (ad : Nat → Nat) (ac : Nat → ClassId) (σ : ASt) : va_W := (List.range (σ.1.length - 1)).map fun k => (ad (k + 1), a_cell ad ac σ (k + 1))
def a_sl : List Nat := [100, 12, 96]
def a_sb : List (List Int32) := [[108, 97, 110, 100, 32, 98, 101, 99, 107, 32, 102, 108, 111, 119, 32, 109, 97, 114, 107, 32, 114, 105, 118, 101, 114, 110, 97, 109, 101, 32, 103, 105, 102, 116, 115, 100, 114, 121, 32, 32, 116, 111, 32, 32, 32, 114, 111, 111, 109, 32, 98, 101, 97, 114, 115, 108, 105, 107, 101, 115, 116, 97, 107, 101, 115, 105, 102, 32, 32, 32, 116, 104, 101, 110, 32, 101, 108, 115, 101, 32, 101, 110, 100, 32, 32, 110, 111, 116, 32, 32, 97, 110, 100, 32, 32, 111, 114, 32, 32, 32], [59, 58, 43, 45, 42, 40, 41, 91, 93, 61, 60, 62], [32, 108, 97, 110, 100, 32, 98, 101, 99, 107, 32, 102, 108, 111, 119, 32, 109, 97, 114, 107, 32, 100, 114, 121, 32, 116, 111, 32, 114, 105, 118, 101, 114, 32, 114, 111, 111, 109, 32, 110, 97, 109, 101, 32, 98, 101, 97, 114, 115, 32, 108, 105, 107, 101, 115, 32, 116, 97, 107, 101, 115, 32, 105, 102, 32, 116, 104, 101, 110, 32, 101, 108, 115, 101, 32, 101, 110, 100, 32, 103, 105, 102, 116, 115, 32, 97, 110, 100, 32, 111, 114, 32, 110, 111, 116, 32]]
def a_sk : List (String × Nat × String × Nat) := [("BeckChoice$Tokens", 74, "land beck flow mark rivername giftsdry  to   room bearslikestakesif   then else end  not  and  or   ", 0), ("BeckChoice$Tokens", 64, ";:+-*()[]=<>", 1), ("BeckChoiceModel", 83, " land beck flow mark dry to river room name bears likes takes if then else end gifts and or not ", 2), ("BeckChoiceModel", 121, ";:+-*()[]=<>", 1)]
def a_nst : List Cond := [.methodLinkNest "BeckChoice" 15 ⟨"BeckChoice$Land", "<init>", "()V"⟩ "BeckChoice", .methodLinkNest "BeckChoice" 44 ⟨"BeckChoice$Law", "<init>", "()V"⟩ "BeckChoice", .methodLinkNest "BeckChoice" 74 ⟨"BeckChoice$Past", "<init>", "()V"⟩ "BeckChoice", .methodLinkNest "BeckChoice" 81 ⟨"BeckChoice$Match", "<init>", "()V"⟩ "BeckChoice", .methodLinkNest "BeckChoice" 117 ⟨"BeckChoice$Tray", "<init>", "()V"⟩ "BeckChoice", .methodLinkNest "BeckChoice$Scene" 71 ⟨"BeckChoice", "pair", "(II)I"⟩ "BeckChoice", .methodLinkNest "BeckChoice$Match" 54 ⟨"BeckChoice", "pair", "(II)I"⟩ "BeckChoice", .methodLinkNest "BeckChoice$Supposing" 65 ⟨"BeckChoice", "pair", "(II)I"⟩ "BeckChoice", .methodLinkNest "BeckChoice$Wooing" 96 ⟨"BeckChoice", "pair", "(II)I"⟩ "BeckChoice"]
/-- what stands fast in a state: string constants, statics of the JDK's, links of nest mates, array classes -/
def a_G (ad : Nat → Nat) (A : Nat → Prop) (s : State) : Prop :=
  vk_S 3 a_sl a_sb (fun j => ad (1000000 + j)) (fun j => ad (1000100 + j)) A s s.heap ∧ (∀ q ∈ a_sk, vk_R q.1 q.2.1 q.2.2.1 (ad (1000000 + q.2.2.2)) s) ∧
  va_Z "java/lang/String" "COMPACT_STRINGS" "Z" (.int 1) A s s.heap ∧ va_Z "jdk/internal/util/Preconditions" "SIOOBE_FORMATTER" "Ljava/util/function/BiFunction;" (a_rv ad 1500000) A s s.heap ∧
  (∀ w ∈ a_nst, va_Nw w s) ∧ va_AO "BeckChoice$Scene" s ∧ va_AO "BeckChoice$Tray" s ∧ va_AOA .int s
def a_tbl : List Cond := lw_tbl.filter goodWord
/-- the script of the law, where there is one -/
def a_X (ad : Nat → Nat) (A : Nat → Prop) (s : State) (x : Option (Nat × (Nat → Int32))) : Prop := match x with
  | some q => va_X (ad 2000000) q.1 q.2 s s.heap ∧ ad 2000000 < s.heap.size ∧ ¬ A (ad 2000000)
  | none => True
/-- the world: what the machine's heap H holds of an abstract state -/
def a_W (D : va_G) (ad : Nat → Nat) (ac : Nat → ClassId) (σ : ASt) (A : Nat → Prop) (s : State) (H : Heap) (locs : List Loc) : Prop :=
  va_K D vwCl [] s ∧ (∀ (n kd len : Nat), σ.1[n + 1]? = some (.inr (kd, len)) → ArrOfT s (ac (n + 1)) (a_kt kd) ∧ va_RA s (ac (n + 1)) (a_kt kd)) ∧
  va_P D vwCl (a_ws ad ac σ) H ∧ va_D A (a_ws ad ac σ) ∧ (∀ q, s.heap.size ≤ q → A q) ∧ va_S A s.heap H locs ∧ (∃ t, σ.1 = .inr (7, 0) :: t) ∧ σ.1.length < 1000 ∧ ∀ n k, n < σ.1.length → aMr σ n k < σ.1.length
/-- the frame of a method that is walked -/
def a_Fix (M : AMt) (p : Program) (s : State) (m : MethodId) (args : Array Value) (meth : Method) (c : Code) : Prop :=
  p.tables.exec = Jvm.exec ∧ c.code = M.2.1 ∧ c.maxLocals = M.2.2.1 ∧ s.vm.findClass M.1.cls = some m.cls ∧ meth.sig.returnType = M.2.2.2.1 ∧ meth.locks = false ∧ (M.1.name = "<init>" → meth.name = "<init>") ∧ (∀ w ∈ a_tbl, w.before args s = true)
def a_loc (ad : Nat → Nat) : Nat → List Value → List (Nat × Value)
  | _, [] => []
  | k, .retAddr _ :: t => a_loc ad (k + 1) t
  | k, v :: t => (k, a_v ad v) :: a_loc ad (k + 1) t
def a_ext (ad ad' : Nat → Nat) (σ σ' : ASt) : Prop := (∀ n, ¬ (σ.1.length ≤ n ∧ n < σ'.1.length) → ad' n = ad n) ∧ σ.1 <+: σ'.1 ∧ σ'.1.length + aBc σ' ≤ σ.1.length + aBc σ
/-- where a method ends with an answer -/
def a_ret (M : AMt) (pc : Nat) (v : Option Value) : Prop := match v with
  | none => decode M.2.1 pc = .ok (.return_, 1) ∧ M.2.2.2.1 = none
  | some (.int x) => decode M.2.1 pc = .ok (.ireturn, 1) ∧ ∃ ty, M.2.2.2.1 = some ty ∧ narrow ty (.int x) = .int x
  | some (.long _) => decode M.2.1 pc = .ok (.lreturn, 1) ∧ M.2.2.2.1 = some .long
  | some _ => False
/-- from this frame the method comes to an end that satisfies Q -/
def Ev (l : Launch) (d : Nat) (M : AMt) (pc : Nat) (c0 : ACf) (Q : Option Value → ASt → Prop) : Prop :=
  ∀ (p : Program) (e : Env) (R : Room) (s : State) (m : MethodId) (args : Array Value) (below : List Frame) (meth : Method) (c : Code) (D : va_G) (ad : Nat → Nat) (ac : Nat → ClassId) (A : Nat → Prop) (H : Heap) (locs : List Loc) (cells slots : Nat) (ls : Array Slot) (Z : State → Prop),
    a_Fix M p s m args meth c → a_G ad A s → a_X ad A s M.2.2.2.2 → a_W D ad ac c0.2.2 A s H locs → d ≤ R.frames → 64 * d ≤ R.locals → cells + aBc c0.2.2 ≤ R.cells → slots + aBs c0.2.2 ≤ R.slots → lv_has ls M.2.2.1 (a_loc ad 0 c0.1) →
    (∀ (v : Option Value) (σ' : ASt) (ad' : Nat → Nat) (ac' : Nat → ClassId) (H' : Heap) (locs' : List Loc) (cells' slots' pc' : Nat) (ls' : Array Slot), Q v σ' → a_ext ad ad' c0.2.2 σ' → a_W D ad' ac' σ' A s H' locs' → cells' + aBc σ' ≤ cells + aBc c0.2.2 → slots' + aBs σ' ≤ slots + aBs c0.2.2 → a_ret M pc' v →
      W p l e R s m args below meth c H' locs' cells' slots' Z (F0 m pc' ls' (v.toList.map (a_v ad')))) →
    W p l e R s m args below meth c H locs cells slots Z (F0 m pc ls (c0.2.1.map (a_v ad)))
theorem a_ext_refl (ad : Nat → Nat) (σ : ASt) : a_ext ad ad σ σ := ⟨fun _ _ => rfl, List.prefix_refl _, Nat.le_refl _⟩
theorem a_ext_trans {ad ad1 ad2 : Nat → Nat} {σ σ1 σ2 : ASt} (h : a_ext ad ad1 σ σ1) (k : a_ext ad1 ad2 σ1 σ2) : a_ext ad ad2 σ σ2 := by
  have h1 := h.2.1.length_le
  have k1 := k.2.1.length_le
  refine ⟨fun n hn => ?_, h.2.1.trans k.2.1, Nat.le_trans k.2.2 h.2.2⟩
  rw [k.1 n (by omega), h.1 n (by omega)]
theorem Ev.retV {l : Launch} {d : Nat} {M : AMt} {pc : Nat} {L : List Value} {σ : ASt} {Q : Option Value → ASt → Prop} (hd : decode M.2.1 pc = .ok (.return_, 1)) (hr : M.2.2.2.1 = none) (hq : Q none σ) : Ev l d M pc (L, [], σ) Q := by
  intro p e R s m args below meth c D ad ac A H locs cells slots ls Z hF hG hX hW h1 h2 h3 h4 hl hret
  exact hret none σ ad ac H locs cells slots pc ls hq (a_ext_refl _ _) hW (Nat.le_refl _) (Nat.le_refl _) ⟨hd, hr⟩
theorem Ev.retI {l : Launch} {d : Nat} {M : AMt} {pc : Nat} {L : List Value} {σ : ASt} {Q : Option Value → ASt → Prop} {x : Int32} (hd : decode M.2.1 pc = .ok (.ireturn, 1)) {ty : FieldType} (hr : M.2.2.2.1 = some ty) (hn : narrow ty (.int x) = .int x) (hq : Q (some (.int x)) σ) : Ev l d M pc (L, [.int x], σ) Q := by
  intro p e R s m args below meth c D ad ac A H locs cells slots ls Z hF hG hX hW h1 h2 h3 h4 hl hret
  exact hret (some (.int x)) σ ad ac H locs cells slots pc ls hq (a_ext_refl _ _) hW (Nat.le_refl _) (Nat.le_refl _) ⟨hd, ty, hr, hn⟩
theorem Ev.retL {l : Launch} {d : Nat} {M : AMt} {pc : Nat} {L : List Value} {σ : ASt} {Q : Option Value → ASt → Prop} {x : Int64} (hd : decode M.2.1 pc = .ok (.lreturn, 1)) (hr : M.2.2.2.1 = some .long) (hq : Q (some (.long x)) σ) : Ev l d M pc (L, [.long x], σ) Q := by
  intro p e R s m args below meth c D ad ac A H locs cells slots ls Z hF hG hX hW h1 h2 h3 h4 hl hret
  exact hret (some (.long x)) σ ad ac H locs cells slots pc ls hq (a_ext_refl _ _) hW (Nat.le_refl _) (Nat.le_refl _) ⟨hd, hr⟩
theorem Ev.monoD {l : Launch} {d d' : Nat} {M : AMt} {pc : Nat} {c0 : ACf} {Q : Option Value → ASt → Prop} (hd : d ≤ d') (h : Ev l d M pc c0 Q) : Ev l d' M pc c0 Q := by
  intro p e R s m args below meth c D ad ac A H locs cells slots ls Z hF hG hX hW h1 h2 h3 h4 hl hret
  exact h p e R s m args below meth c D ad ac A H locs cells slots ls Z hF hG hX hW (by omega) (by omega) h3 h4 hl hret
theorem Ev.mono {l : Launch} {d : Nat} {M : AMt} {pc : Nat} {c0 : ACf} {Q Q' : Option Value → ASt → Prop} (hq : ∀ v σ, Q v σ → Q' v σ) (h : Ev l d M pc c0 Q) : Ev l d M pc c0 Q' := by
  intro p e R s m args below meth c D ad ac A H locs cells slots ls Z hF hG hX hW h1 h2 h3 h4 hl hret
  exact h p e R s m args below meth c D ad ac A H locs cells slots ls Z hF hG hX hW h1 h2 h3 h4 hl (fun v σ' ad' ac' H' locs' cells' slots' pc' ls' q => hret v σ' ad' ac' H' locs' cells' slots' pc' ls' (hq _ _ q))
/-- an instruction that changes locals and stack alone -/
theorem Ev.pure {l : Launch} {d : Nat} {M : AMt} {pc pc' : Nat} {L S L' S' : List Value} {σ : ASt} {Q : Option Value → ASt → Prop}
    (h : ∀ (p : Program) (e : Env) (R : Room) (s : State) (m : MethodId) (args : Array Value) (below : List Frame) (meth : Method) (c : Code) (ad : Nat → Nat) (A : Nat → Prop) (H : Heap) (locs : List Loc) (cells slots : Nat) (ls : Array Slot) (Z : State → Prop), a_Fix M p s m args meth c → a_G ad A s → a_X ad A s M.2.2.2.2 → va_S A s.heap H locs → lv_has ls M.2.2.1 (a_loc ad 0 L) →
      (∀ ls', lv_has ls' M.2.2.1 (a_loc ad 0 L') → W p l e R s m args below meth c H locs cells slots Z (F0 m pc' ls' (S'.map (a_v ad)))) → W p l e R s m args below meth c H locs cells slots Z (F0 m pc ls (S.map (a_v ad))))
    (k : Ev l d M pc' (L', S', σ) Q) : Ev l d M pc (L, S, σ) Q := by
  intro p e R s m args below meth c D ad ac A H locs cells slots ls Z hF hG hX hW h1 h2 h3 h4 hl hret
  exact h p e R s m args below meth c ad A H locs cells slots ls Z hF hG hX hW.2.2.2.2.2.1 hl (fun ls' hl' => k p e R s m args below meth c D ad ac A H locs cells slots ls' Z hF hG hX hW h1 h2 h3 h4 hl' hret)
