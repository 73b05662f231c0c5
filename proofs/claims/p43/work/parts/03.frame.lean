/-! THE FRAME: one judgement for a walk over a world of fixed shape; a row an instruction -/
abbrev Hp : Type := (Nat → Nat → Int32) × (Nat → Nat → Int64)
def hI (h : Hp) (q : Nat) (f : Nat → Int32) : Hp := (fun k => bif Nat.beq k q then f else h.1 k, h.2)
def hL (h : Hp) (q : Nat) (f : Nat → Int64) : Hp := (h.1, fun k => bif Nat.beq k q then f else h.2 k)
def TW : List Cond := lw_tbl.filter goodWord
theorem tw_in {w : Cond} (i : Nat) (h : lw_tbl[i]? = some w) (g : goodWord w = true) : w ∈ TW := List.mem_filter.mpr ⟨List.mem_of_getElem? h, g⟩
theorem tw_good {w : Cond} (h : w ∈ TW) : goodWord w = true := (List.mem_filter.mp h).2
theorem gU {y : MethodName} {cc : ByteArray} {n : Nat} {r : Option FieldType} (hk : Cond.code y cc n r ∈ TW) : GoodIn TW (Cond.code y cc n r :: TW) := by
  intro w hw
  rcases List.mem_cons.mp hw with rfl | h
  · exact ⟨hk, good_of_word (tw_good hk)⟩
  · exact ⟨h, good_of_word (tw_good h)⟩
abbrev TYS (cy : Nat → ClassId) : List (ClassId × FieldType) := [(cy 0, .int), (cy 1, .long), (cy 2, .byte), (cy 3, .boolean), (cy 4, .char)]
/-- the words that join nest mates -/
def isNest : Cond → Bool
  | .fieldLinkNest _ _ _ _ _ _ => true
  | .methodLinkNest _ _ _ _ => true
  | _ => false
def NST : List Cond := lw_tbl.filter isNest
theorem nst_in {w : Cond} (i : Nat) (h : lw_tbl[i]? = some w) (g : isNest w = true) : w ∈ NST := List.mem_filter.mpr ⟨List.mem_of_getElem? h, g⟩
theorem nest_warm {w : Cond} (hw : w ∈ NST) {s U : State} (hW : s.WarmedH U.vm) (h : va_Nw w s) : va_Nw w U := by
  have g := (List.mem_filter.mp hw).2
  cases w <;> first | exact va_Nw.warmF hW h | exact va_Nw.warmM hW h | cases g
theorem nest_same {w : Cond} (hw : w ∈ NST) {u U : State} (hv : u.vm = U.vm) (h : va_Nw w u) : va_Nw w U := by
  have g := (List.mem_filter.mp hw).2
  cases w <;> first | exact va_Nw.same rfl hv h | cases g
def isSt : Cond → Bool
  | .castable _ _ => true
  | .declares _ => true
  | _ => false
def STW : List Cond := lw_tbl.filter isSt
theorem st_in {w : Cond} (i : Nat) (h : lw_tbl[i]? = some w) (g : isSt w = true) : w ∈ STW := List.mem_filter.mpr ⟨List.mem_of_getElem? h, g⟩
theorem st_warm {w : Cond} (hw : w ∈ STW) {u U : State} (hv : u.vm.Alike U.vm) (h : va_Nw w u) : va_Nw w U := by
  have g := (List.mem_filter.mp hw).2
  cases w <;> first | exact va_tabs rfl (rfl : (u.setVm U.vm).vm = U.vm) ((Cond.castable_setVm (args := #[]) hv _ _).trans h) | exact va_tabs rfl (rfl : (u.setVm U.vm).vm = U.vm) ((Cond.declares_setVm (args := #[]) hv _).trans h) | cases g
theorem st_tab {w : Cond} (hw : w ∈ STW) : w.onTables = true := by
  have g := (List.mem_filter.mp hw).2
  cases w <;> first | rfl | cases g
/-- the three rows of written numbers, and what a throw needs -/
def fINP (j : Nat) : Int64 := if j = 0 then -6148914691236517206 else if j = 1 then -3689348814741910324 else if j = 2 then -1085102592571150096 else if j = 3 then -71777214294589696 else if j = 4 then -281470681808896 else -4294967296
def fFAC (j : Nat) : Int32 := if j = 0 then 1 else if j = 1 then 1 else if j = 2 then 2 else if j = 3 then 6 else if j = 4 then 24 else if j = 5 then 120 else 720
def fBEG (j : Nat) : Int32 := if j = 0 then 0 else if j = 1 then 0 else if j = 2 then 0 else if j = 3 then 2 else if j = 4 then 8 else if j = 5 then 32 else 152
def STRS : List (String × Nat × String) := [("Comparatory", 70, "a network has 2 to 6 wires"), ("Comparatory", 337, "there is no such wire"), ("Comparatory", 339, "both wires are the same"), ("Comparatory", 335, "a network has at most 24 comparators"), ("Comparatory", 101, "there is no comparator"), ("Comparatory", 107, "what is BUBBLE to MERGE"), ("Comparatory", 182, "1 to 8 characters are typed"), ("Comparatory", 192, "a character cannot be on the tape"), ("Comparatory", 197, "the tape has at most 40 characters"), ("Comparatory", 209, "the tape is no text"), ("Comparatory", 275, "1000 tokens came"), ("Comparatory", 352, "that is no code of a row"), ("Comparatory", 147, "what is 0 to 5"), ("Comparatory", 343, "a place is not below 0"), ("Comparatory", 341, "there is no such comparator"), ("Comparatory", 173, "what is 0 to 3"), ("Comparatory", 249, "a network merges at a wire other than 0"), ("Comparatory", 256, "many is 1 to one less than there are wires"), ("Comparatory", 345, "a fault is PASS to TURN"), ("Comparatory", 347, "steps are SWAPS to BLOCKS"), ("Comparatory", 318, "far is not below 0"), ("Comparatory", 241, "most is 0 to 3")]
def SRow (C n d : String) (ty : FieldType) (N : Nat) (f : Nat → Value) (A : Nat → Prop) (U : State) (H : Heap) : Prop := ∃ t : Nat, va_Z C n d (.ref t) A U H ∧ va_T ty t N f A U H
theorem SRow.moved {C n d : String} {ty : FieldType} {N : Nat} {f : Nat → Value} {A : Nat → Prop} {u U : State} {H : Heap} (hv : u.vm.Alike U.vm) (h : SRow C n d ty N f A u H) : SRow C n d ty N f A U H := by
  obtain ⟨t, h1, h2⟩ := h
  exact ⟨t, h1.moved hv, h2.moved hv⟩
theorem SRow.kept {C n d : String} {ty : FieldType} {N : Nat} {f : Nat → Value} {A : Nat → Prop} {U : State} {H H1 : Heap} (h : SRow C n d ty N f A U H) (hq : ∀ a : Nat, a < H.size → ¬ A a → H1[a]? = H[a]?) : SRow C n d ty N f A U H1 := by
  obtain ⟨t, h1, h2⟩ := h
  exact ⟨t, h1.kept hq, h2.kept hq⟩
theorem SRow.narrow {C n d : String} {ty : FieldType} {N : Nat} {f : Nat → Value} {A B : Nat → Prop} {U : State} {H : Heap} (h : SRow C n d ty N f A U H) (hAB : ∀ q, B q → A q) : SRow C n d ty N f B U H := by
  obtain ⟨t, h1, h2⟩ := h
  exact ⟨t, h1.narrow hAB, h2.narrow hAB⟩
def sINP := SRow "Comparatory$Proof" "INPUTS" "[J" .long 6 (fun j => .long (fINP j))
def sFAC := SRow "Comparatory$Rows" "FACTORIALS" "[I" .int 7 (fun j => .int (fFAC j))
def sBEG := SRow "Comparatory$Steps" "BEGINNINGS" "[I" .int 7 (fun j => .int (fBEG j))
def ENV (A : Nat → Prop) (U : State) (H : Heap) : Prop := (∀ w ∈ NST, va_Nw w U) ∧ sINP A U H ∧ sFAC A U H ∧ sBEG A U H ∧ vx_Zq Bundle.tN "UNASSIGNED_STACK" Bundle.steD A U H ∧ vx_Zq Bundle.tN "SUPPRESSED_SENTINEL" Bundle.listD A U H ∧ (∀ q ∈ STRS, ∃ sa, vk_R q.1 q.2.1 q.2.2 sa U) ∧ ∀ w ∈ STW, va_Nw w U
theorem ENV.same {A : Nat → Prop} {u U : State} {H : Heap} (hv : u.vm = U.vm) (h : ENV A u H) : ENV A U H := by
  obtain ⟨h1, h2, h3, h4, h5, h6, h7, h8⟩ := h
  have ha : u.vm.Alike U.vm := by rw [hv]; exact Vm.Alike.refl U.vm
  exact ⟨fun w hw => nest_same hw hv (h1 w hw), SRow.moved ha h2, SRow.moved ha h3, SRow.moved ha h4, vx_Zq.moved ha h5, vx_Zq.moved ha h6, fun q hq => by obtain ⟨sa, z⟩ := h7 q hq; exact ⟨sa, vk_R.same hv.symm z⟩, fun w hw => st_warm hw ha (h8 w hw)⟩
theorem ENV.warm {A : Nat → Prop} {s U : State} {H : Heap} (hW : s.WarmedH U.vm) (h : ENV A s H) : ENV A U H := by
  obtain ⟨h1, h2, h3, h4, h5, h6, h7, h8⟩ := h
  have ha := hW.alike
  exact ⟨fun w hw => nest_warm hw hW (h1 w hw), SRow.moved ha h2, SRow.moved ha h3, SRow.moved ha h4, vx_Zq.moved ha h5, vx_Zq.moved ha h6, fun q hq => by obtain ⟨sa, z⟩ := h7 q hq; exact ⟨sa, vk_R.warm hW z⟩, fun w hw => st_warm hw ha (h8 w hw)⟩
theorem ENV.kept {A : Nat → Prop} {U : State} {H H1 : Heap} (h : ENV A U H) (hq : ∀ a : Nat, a < H.size → ¬ A a → H1[a]? = H[a]?) : ENV A U H1 := by
  obtain ⟨h1, h2, h3, h4, h5, h6, h7, h8⟩ := h
  exact ⟨h1, SRow.kept h2 hq, SRow.kept h3 hq, SRow.kept h4 hq, h5.kept hq, h6.kept hq, h7, h8⟩
theorem ENV.narrow {A B : Nat → Prop} {U : State} {H : Heap} (h : ENV A U H) (hAB : ∀ q, B q → A q) : ENV B U H := by
  obtain ⟨h1, h2, h3, h4, h5, h6, h7, h8⟩ := h
  exact ⟨h1, SRow.narrow h2 hAB, SRow.narrow h3 hAB, SRow.narrow h4 hAB, h5.narrow hAB, h6.narrow hAB, h7, h8⟩
abbrev Cx : Type := Program × Env × Room × State × MethodId × Array Value × List Frame × Method × Code × (State → Prop) × (Nat → Prop)
def Ok (l : Launch) (D : va_G) (cy : Nat → ClassId) (X : Cx) (cc : ByteArray) (own : String) (nL : Nat) (R : Room) : Prop := match X with
  | (p, _, R', s, m, args, _, meth, c, _, A) => R' = R ∧ p.tables.exec = Jvm.exec ∧ c.code = cc ∧ c.maxLocals = nL ∧ s.vm.findClass own = some m.cls ∧ (∀ w ∈ TW, w.before args s = true) ∧ va_K D vwCl (TYS cy) s ∧ (∀ q, s.heap.size ≤ q → A q) ∧ meth.locks = false ∧ ENV A s s.heap
def G {S : Type} (l : Launch) (D : va_G) (X : Cx) (nL : Nat) (wf : S → va_W) (k n : Nat) (h : S) (pc : Nat) (lv : List (Nat × Value)) (st : List Value) : Prop := match X with
  | (p, e, R, s, m, args, below, meth, c, Q, A) => ∀ (H : Heap) (locs : List Loc) (ls : Array Slot), va_P D vwCl (wf h) H → va_D A (wf h) → va_S A s.heap H locs → lv_has ls nL lv → W p l e R s m args below meth c H locs k n Q (F0 m pc ls st)
abbrev Dc (cc : ByteArray) (pc : Nat) (i : Instr) (len pc' : Nat) : Prop := decode cc pc = .ok (i, len) ∧ pc + len = pc'
def inb (i : Int32) (n : Nat) : Bool := decide (0 ≤ i.toInt) && decide (i.toInt < n)
theorem inb_in {i : Int32} {n : Nat} (h : inb i n = true) : vp_in i n := by
  rw [inb, Bool.and_eq_true, decide_eq_true_eq, decide_eq_true_eq] at h
  exact vp_in_iff.mpr h
/-- the words of the pure programs -/
def ishl (x y : Int32) : Int32 := x <<< (y &&& 31)
def ishr (x y : Int32) : Int32 := x >>> (y &&& 31)
def iushr (x y : Int32) : Int32 := (x.toUInt32 >>> (y.toUInt32 &&& Int32.toUInt32 31)).toInt32
def irm (x y : Int32) : Int32 := x - x / y * y
def lrm (x y : Int64) : Int64 := x - x / y * y
def lshl (x : Int64) (y : Int32) : Int64 := x <<< (y.toInt64 &&& 63)
def lshr (x : Int64) (y : Int32) : Int64 := x >>> (y.toInt64 &&& 63)
def lushr (x : Int64) (y : Int32) : Int64 := (x.toUInt64 >>> (y.toInt64.toUInt64 &&& Int64.toUInt64 63)).toInt64
def i2l (x : Int32) : Int64 := x.toInt64
def l2i (x : Int64) : Int32 := x.toInt32
def i2b (x : Int32) : Int32 := x.toInt8.toInt32
def i2c (x : Int32) : Int32 := (x.toUInt32 % 65536).toInt32
def wI (h : Hp) (q : Nat) (i x : Int32) : Hp := hI h q (upd (h.1 q) i.toNatClampNeg x)
def wZ (h : Hp) (q : Nat) (i x : Int32) : Hp := hI h q (upd (h.1 q) i.toNatClampNeg (vp_nar .boolean x))
def wB (h : Hp) (q : Nat) (i x : Int32) : Hp := hI h q (upd (h.1 q) i.toNatClampNeg (vp_nar .byte x))
def wCh (h : Hp) (q : Nat) (i x : Int32) : Hp := hI h q (upd (h.1 q) i.toNatClampNeg (vp_nar .char x))
def wL (h : Hp) (q : Nat) (i : Int32) (x : Int64) : Hp := hL h q (vp_updL (h.2 q) i.toNatClampNeg x)
def wF (h : Hp) (q k : Nat) (x : Int32) : Hp := hI h q (upd (h.1 q) k x)
def wFL (h : Hp) (q k : Nat) (x : Int64) : Hp := hL h q (vp_updL (h.2 q) k x)
def imax (x y : Int32) : Int32 := if x < y then y else x
def imin (x y : Int32) : Int32 := if y < x then y else x
def FU : Nat := 100000
def ck {β : Type} (i : Int32) (n : Nat) (k : Option β) : Option β := if inb i n = true then k else none
def nz {β : Type} (y : Int32) (k : Option β) : Option β := if y = 0 then none else k
def ckz {β : Type} (r : Int32) (k : Option β) : Option β := if r = 0 ∨ r = 1 then k else none
def ckc {β : Type} (r : Int32) (k : Option β) : Option β := if narrow .char (.int r) = .int r then k else none
def bd {α β : Type} (x : Option α) (k : α → Option β) : Option β := match x with
  | none => none
  | some a => k a
def nm {α β : Type} (x : α) (k : α → Option β) : Option β := k x
def lp {α β : Type} (F : (α → Option β) → α → Option β) : Nat → α → Option β
  | 0, _ => none
  | n + 1, a => F (lp F n) a
theorem ck_of {β : Type} {i : Int32} {n : Nat} {k : Option β} {o : β} (h : ck i n k = some o) : vp_in i n ∧ k = some o := by
  unfold ck at h
  by_cases c : inb i n = true
  · rw [if_pos c] at h; exact ⟨inb_in c, h⟩
  · rw [if_neg c] at h; cases h
theorem nz_of {β : Type} {y : Int32} {k : Option β} {o : β} (h : nz y k = some o) : ¬ y = 0 ∧ k = some o := by
  unfold nz at h
  by_cases c : y = 0
  · rw [if_pos c] at h; cases h
  · rw [if_neg c] at h; exact ⟨c, h⟩
theorem ckz_of {β : Type} {r : Int32} {k : Option β} {o : β} (h : ckz r k = some o) : narrow .boolean (.int r) = .int r ∧ k = some o := by
  unfold ckz at h
  by_cases c : r = 0 ∨ r = 1
  · rw [if_pos c] at h
    refine ⟨?_, h⟩
    rcases c with rfl | rfl <;> rfl
  · rw [if_neg c] at h; cases h
theorem ckc_of {β : Type} {r : Int32} {k : Option β} {o : β} (h : ckc r k = some o) : narrow .char (.int r) = .int r ∧ k = some o := by
  unfold ckc at h
  by_cases c : narrow .char (.int r) = .int r
  · rw [if_pos c] at h; exact ⟨c, h⟩
  · rw [if_neg c] at h; cases h
def bdx {ε α β : Type} (x : Option (ε ⊕ α)) (k : α → Option (ε ⊕ β)) : Option (ε ⊕ β) := match x with
  | none => none
  | some (.inl e) => some (.inl e)
  | some (.inr a) => k a
theorem bdx_of {ε α β : Type} {x : Option (ε ⊕ α)} {k : α → Option (ε ⊕ β)} {o : ε ⊕ β} (h : bdx x k = some o) : ∃ z, x = some z ∧ (∀ e, z = .inl e → o = .inl e) ∧ (∀ a, z = .inr a → k a = some o) := by
  match x, h with
  | none, h => cases h
  | some (.inl e), h => exact ⟨_, rfl, fun e2 q => by cases q; cases h; rfl, fun a q => by cases q⟩
  | some (.inr a), h => exact ⟨_, rfl, fun e2 q => (by cases q), fun a q => by cases q; exact h⟩
theorem bd_of {α β : Type} {x : Option α} {k : α → Option β} {o : β} (h : bd x k = some o) : ∃ a, x = some a ∧ k a = some o := by
  cases x with
  | none => cases h
  | some a => exact ⟨a, rfl, h⟩
theorem ite_t {β : Type} {c : Prop} {dc : Decidable c} {a b : Option β} {o : β} (h : @ite _ c dc a b = some o) (hc : c) : a = some o := by rw [if_pos hc] at h; exact h
theorem ite_f {β : Type} {c : Prop} {dc : Decidable c} {a b : Option β} {o : β} (h : @ite _ c dc a b = some o) (hc : ¬ c) : b = some o := by rw [if_neg hc] at h; exact h
theorem lp_of {α β : Type} {F : (α → Option β) → α → Option β} {o : β} (P : α → Prop) (hs : ∀ (self : α → Option β), (∀ a, self a = some o → P a) → ∀ a, F self a = some o → P a) : ∀ (n : Nat) (a : α), lp F n a = some o → P a
  | 0, _, h => by cases h
  | n + 1, a, h => hs (lp F n) (lp_of P hs n) a h
def jn0 {β : Type} (b : (Option β) → Option β) (j : Option β) : Option β := b j
theorem jn0_of {β : Type} {b : (Option β) → Option β} {j : Option β} {o : β} {Go : Prop} (P : Prop) (E : jn0 b j = some o) (h1 : j  = some o → P ) (h2 : ∀ j : Option β, (j  = some o → P ) → b j = some o → Go) : Go := h2 j h1 E
def jn1 {A1 β : Type} (b : (A1 → Option β) → Option β) (j : A1 → Option β) : Option β := b j
theorem jn1_of {A1 β : Type} {b : (A1 → Option β) → Option β} {j : A1 → Option β} {o : β} {Go : Prop} (P : A1 → Prop) (E : jn1 b j = some o) (h1 : ∀ (a1 : A1), j a1 = some o → P a1) (h2 : ∀ j : A1 → Option β, (∀ (a1 : A1), j a1 = some o → P a1) → b j = some o → Go) : Go := h2 j h1 E
def fx1 {A1 β : Type} (F : (A1 → Option β) → A1 → Option β) : Nat → A1 → Option β
  | 0, _ => none
  | n + 1, a1 => F (fx1 F n) a1
theorem fx1_of {A1 β : Type} {F : (A1 → Option β) → A1 → Option β} {o : β} (P : A1 → Prop) (hs : ∀ self : A1 → Option β, (∀ (a1 : A1), self a1 = some o → P a1) → ∀ (a1 : A1), F self a1 = some o → P a1) : ∀ (n : Nat) (a1 : A1), fx1 F n a1 = some o → P a1
  | 0, _, h => by cases h
  | n + 1, a1, h => hs (fx1 F n) (fx1_of P hs n) a1 h
def jn2 {A1 A2 β : Type} (b : (A1 → A2 → Option β) → Option β) (j : A1 → A2 → Option β) : Option β := b j
theorem jn2_of {A1 A2 β : Type} {b : (A1 → A2 → Option β) → Option β} {j : A1 → A2 → Option β} {o : β} {Go : Prop} (P : A1 → A2 → Prop) (E : jn2 b j = some o) (h1 : ∀ (a1 : A1) (a2 : A2), j a1 a2 = some o → P a1 a2) (h2 : ∀ j : A1 → A2 → Option β, (∀ (a1 : A1) (a2 : A2), j a1 a2 = some o → P a1 a2) → b j = some o → Go) : Go := h2 j h1 E
def fx2 {A1 A2 β : Type} (F : (A1 → A2 → Option β) → A1 → A2 → Option β) : Nat → A1 → A2 → Option β
  | 0, _, _ => none
  | n + 1, a1, a2 => F (fx2 F n) a1 a2
theorem fx2_of {A1 A2 β : Type} {F : (A1 → A2 → Option β) → A1 → A2 → Option β} {o : β} (P : A1 → A2 → Prop) (hs : ∀ self : A1 → A2 → Option β, (∀ (a1 : A1) (a2 : A2), self a1 a2 = some o → P a1 a2) → ∀ (a1 : A1) (a2 : A2), F self a1 a2 = some o → P a1 a2) : ∀ (n : Nat) (a1 : A1) (a2 : A2), fx2 F n a1 a2 = some o → P a1 a2
  | 0, _, _, h => by cases h
  | n + 1, a1, a2, h => hs (fx2 F n) (fx2_of P hs n) a1 a2 h
def jn3 {A1 A2 A3 β : Type} (b : (A1 → A2 → A3 → Option β) → Option β) (j : A1 → A2 → A3 → Option β) : Option β := b j
theorem jn3_of {A1 A2 A3 β : Type} {b : (A1 → A2 → A3 → Option β) → Option β} {j : A1 → A2 → A3 → Option β} {o : β} {Go : Prop} (P : A1 → A2 → A3 → Prop) (E : jn3 b j = some o) (h1 : ∀ (a1 : A1) (a2 : A2) (a3 : A3), j a1 a2 a3 = some o → P a1 a2 a3) (h2 : ∀ j : A1 → A2 → A3 → Option β, (∀ (a1 : A1) (a2 : A2) (a3 : A3), j a1 a2 a3 = some o → P a1 a2 a3) → b j = some o → Go) : Go := h2 j h1 E
def fx3 {A1 A2 A3 β : Type} (F : (A1 → A2 → A3 → Option β) → A1 → A2 → A3 → Option β) : Nat → A1 → A2 → A3 → Option β
  | 0, _, _, _ => none
  | n + 1, a1, a2, a3 => F (fx3 F n) a1 a2 a3
theorem fx3_of {A1 A2 A3 β : Type} {F : (A1 → A2 → A3 → Option β) → A1 → A2 → A3 → Option β} {o : β} (P : A1 → A2 → A3 → Prop) (hs : ∀ self : A1 → A2 → A3 → Option β, (∀ (a1 : A1) (a2 : A2) (a3 : A3), self a1 a2 a3 = some o → P a1 a2 a3) → ∀ (a1 : A1) (a2 : A2) (a3 : A3), F self a1 a2 a3 = some o → P a1 a2 a3) : ∀ (n : Nat) (a1 : A1) (a2 : A2) (a3 : A3), fx3 F n a1 a2 a3 = some o → P a1 a2 a3
  | 0, _, _, _, h => by cases h
  | n + 1, a1, a2, a3, h => hs (fx3 F n) (fx3_of P hs n) a1 a2 a3 h
def jn4 {A1 A2 A3 A4 β : Type} (b : (A1 → A2 → A3 → A4 → Option β) → Option β) (j : A1 → A2 → A3 → A4 → Option β) : Option β := b j
theorem jn4_of {A1 A2 A3 A4 β : Type} {b : (A1 → A2 → A3 → A4 → Option β) → Option β} {j : A1 → A2 → A3 → A4 → Option β} {o : β} {Go : Prop} (P : A1 → A2 → A3 → A4 → Prop) (E : jn4 b j = some o) (h1 : ∀ (a1 : A1) (a2 : A2) (a3 : A3) (a4 : A4), j a1 a2 a3 a4 = some o → P a1 a2 a3 a4) (h2 : ∀ j : A1 → A2 → A3 → A4 → Option β, (∀ (a1 : A1) (a2 : A2) (a3 : A3) (a4 : A4), j a1 a2 a3 a4 = some o → P a1 a2 a3 a4) → b j = some o → Go) : Go := h2 j h1 E
def fx4 {A1 A2 A3 A4 β : Type} (F : (A1 → A2 → A3 → A4 → Option β) → A1 → A2 → A3 → A4 → Option β) : Nat → A1 → A2 → A3 → A4 → Option β
  | 0, _, _, _, _ => none
  | n + 1, a1, a2, a3, a4 => F (fx4 F n) a1 a2 a3 a4
theorem fx4_of {A1 A2 A3 A4 β : Type} {F : (A1 → A2 → A3 → A4 → Option β) → A1 → A2 → A3 → A4 → Option β} {o : β} (P : A1 → A2 → A3 → A4 → Prop) (hs : ∀ self : A1 → A2 → A3 → A4 → Option β, (∀ (a1 : A1) (a2 : A2) (a3 : A3) (a4 : A4), self a1 a2 a3 a4 = some o → P a1 a2 a3 a4) → ∀ (a1 : A1) (a2 : A2) (a3 : A3) (a4 : A4), F self a1 a2 a3 a4 = some o → P a1 a2 a3 a4) : ∀ (n : Nat) (a1 : A1) (a2 : A2) (a3 : A3) (a4 : A4), fx4 F n a1 a2 a3 a4 = some o → P a1 a2 a3 a4
  | 0, _, _, _, _, h => by cases h
  | n + 1, a1, a2, a3, a4, h => hs (fx4 F n) (fx4_of P hs n) a1 a2 a3 a4 h
def jn5 {A1 A2 A3 A4 A5 β : Type} (b : (A1 → A2 → A3 → A4 → A5 → Option β) → Option β) (j : A1 → A2 → A3 → A4 → A5 → Option β) : Option β := b j
theorem jn5_of {A1 A2 A3 A4 A5 β : Type} {b : (A1 → A2 → A3 → A4 → A5 → Option β) → Option β} {j : A1 → A2 → A3 → A4 → A5 → Option β} {o : β} {Go : Prop} (P : A1 → A2 → A3 → A4 → A5 → Prop) (E : jn5 b j = some o) (h1 : ∀ (a1 : A1) (a2 : A2) (a3 : A3) (a4 : A4) (a5 : A5), j a1 a2 a3 a4 a5 = some o → P a1 a2 a3 a4 a5) (h2 : ∀ j : A1 → A2 → A3 → A4 → A5 → Option β, (∀ (a1 : A1) (a2 : A2) (a3 : A3) (a4 : A4) (a5 : A5), j a1 a2 a3 a4 a5 = some o → P a1 a2 a3 a4 a5) → b j = some o → Go) : Go := h2 j h1 E
def fx5 {A1 A2 A3 A4 A5 β : Type} (F : (A1 → A2 → A3 → A4 → A5 → Option β) → A1 → A2 → A3 → A4 → A5 → Option β) : Nat → A1 → A2 → A3 → A4 → A5 → Option β
  | 0, _, _, _, _, _ => none
  | n + 1, a1, a2, a3, a4, a5 => F (fx5 F n) a1 a2 a3 a4 a5
theorem fx5_of {A1 A2 A3 A4 A5 β : Type} {F : (A1 → A2 → A3 → A4 → A5 → Option β) → A1 → A2 → A3 → A4 → A5 → Option β} {o : β} (P : A1 → A2 → A3 → A4 → A5 → Prop) (hs : ∀ self : A1 → A2 → A3 → A4 → A5 → Option β, (∀ (a1 : A1) (a2 : A2) (a3 : A3) (a4 : A4) (a5 : A5), self a1 a2 a3 a4 a5 = some o → P a1 a2 a3 a4 a5) → ∀ (a1 : A1) (a2 : A2) (a3 : A3) (a4 : A4) (a5 : A5), F self a1 a2 a3 a4 a5 = some o → P a1 a2 a3 a4 a5) : ∀ (n : Nat) (a1 : A1) (a2 : A2) (a3 : A3) (a4 : A4) (a5 : A5), fx5 F n a1 a2 a3 a4 a5 = some o → P a1 a2 a3 a4 a5
  | 0, _, _, _, _, _, h => by cases h
  | n + 1, a1, a2, a3, a4, a5, h => hs (fx5 F n) (fx5_of P hs n) a1 a2 a3 a4 a5 h
def jn6 {A1 A2 A3 A4 A5 A6 β : Type} (b : (A1 → A2 → A3 → A4 → A5 → A6 → Option β) → Option β) (j : A1 → A2 → A3 → A4 → A5 → A6 → Option β) : Option β := b j
theorem jn6_of {A1 A2 A3 A4 A5 A6 β : Type} {b : (A1 → A2 → A3 → A4 → A5 → A6 → Option β) → Option β} {j : A1 → A2 → A3 → A4 → A5 → A6 → Option β} {o : β} {Go : Prop} (P : A1 → A2 → A3 → A4 → A5 → A6 → Prop) (E : jn6 b j = some o) (h1 : ∀ (a1 : A1) (a2 : A2) (a3 : A3) (a4 : A4) (a5 : A5) (a6 : A6), j a1 a2 a3 a4 a5 a6 = some o → P a1 a2 a3 a4 a5 a6) (h2 : ∀ j : A1 → A2 → A3 → A4 → A5 → A6 → Option β, (∀ (a1 : A1) (a2 : A2) (a3 : A3) (a4 : A4) (a5 : A5) (a6 : A6), j a1 a2 a3 a4 a5 a6 = some o → P a1 a2 a3 a4 a5 a6) → b j = some o → Go) : Go := h2 j h1 E
def fx6 {A1 A2 A3 A4 A5 A6 β : Type} (F : (A1 → A2 → A3 → A4 → A5 → A6 → Option β) → A1 → A2 → A3 → A4 → A5 → A6 → Option β) : Nat → A1 → A2 → A3 → A4 → A5 → A6 → Option β
  | 0, _, _, _, _, _, _ => none
  | n + 1, a1, a2, a3, a4, a5, a6 => F (fx6 F n) a1 a2 a3 a4 a5 a6
theorem fx6_of {A1 A2 A3 A4 A5 A6 β : Type} {F : (A1 → A2 → A3 → A4 → A5 → A6 → Option β) → A1 → A2 → A3 → A4 → A5 → A6 → Option β} {o : β} (P : A1 → A2 → A3 → A4 → A5 → A6 → Prop) (hs : ∀ self : A1 → A2 → A3 → A4 → A5 → A6 → Option β, (∀ (a1 : A1) (a2 : A2) (a3 : A3) (a4 : A4) (a5 : A5) (a6 : A6), self a1 a2 a3 a4 a5 a6 = some o → P a1 a2 a3 a4 a5 a6) → ∀ (a1 : A1) (a2 : A2) (a3 : A3) (a4 : A4) (a5 : A5) (a6 : A6), F self a1 a2 a3 a4 a5 a6 = some o → P a1 a2 a3 a4 a5 a6) : ∀ (n : Nat) (a1 : A1) (a2 : A2) (a3 : A3) (a4 : A4) (a5 : A5) (a6 : A6), fx6 F n a1 a2 a3 a4 a5 a6 = some o → P a1 a2 a3 a4 a5 a6
  | 0, _, _, _, _, _, _, h => by cases h
  | n + 1, a1, a2, a3, a4, a5, a6, h => hs (fx6 F n) (fx6_of P hs n) a1 a2 a3 a4 a5 a6 h
def jn7 {A1 A2 A3 A4 A5 A6 A7 β : Type} (b : (A1 → A2 → A3 → A4 → A5 → A6 → A7 → Option β) → Option β) (j : A1 → A2 → A3 → A4 → A5 → A6 → A7 → Option β) : Option β := b j
theorem jn7_of {A1 A2 A3 A4 A5 A6 A7 β : Type} {b : (A1 → A2 → A3 → A4 → A5 → A6 → A7 → Option β) → Option β} {j : A1 → A2 → A3 → A4 → A5 → A6 → A7 → Option β} {o : β} {Go : Prop} (P : A1 → A2 → A3 → A4 → A5 → A6 → A7 → Prop) (E : jn7 b j = some o) (h1 : ∀ (a1 : A1) (a2 : A2) (a3 : A3) (a4 : A4) (a5 : A5) (a6 : A6) (a7 : A7), j a1 a2 a3 a4 a5 a6 a7 = some o → P a1 a2 a3 a4 a5 a6 a7) (h2 : ∀ j : A1 → A2 → A3 → A4 → A5 → A6 → A7 → Option β, (∀ (a1 : A1) (a2 : A2) (a3 : A3) (a4 : A4) (a5 : A5) (a6 : A6) (a7 : A7), j a1 a2 a3 a4 a5 a6 a7 = some o → P a1 a2 a3 a4 a5 a6 a7) → b j = some o → Go) : Go := h2 j h1 E
def fx7 {A1 A2 A3 A4 A5 A6 A7 β : Type} (F : (A1 → A2 → A3 → A4 → A5 → A6 → A7 → Option β) → A1 → A2 → A3 → A4 → A5 → A6 → A7 → Option β) : Nat → A1 → A2 → A3 → A4 → A5 → A6 → A7 → Option β
  | 0, _, _, _, _, _, _, _ => none
  | n + 1, a1, a2, a3, a4, a5, a6, a7 => F (fx7 F n) a1 a2 a3 a4 a5 a6 a7
theorem fx7_of {A1 A2 A3 A4 A5 A6 A7 β : Type} {F : (A1 → A2 → A3 → A4 → A5 → A6 → A7 → Option β) → A1 → A2 → A3 → A4 → A5 → A6 → A7 → Option β} {o : β} (P : A1 → A2 → A3 → A4 → A5 → A6 → A7 → Prop) (hs : ∀ self : A1 → A2 → A3 → A4 → A5 → A6 → A7 → Option β, (∀ (a1 : A1) (a2 : A2) (a3 : A3) (a4 : A4) (a5 : A5) (a6 : A6) (a7 : A7), self a1 a2 a3 a4 a5 a6 a7 = some o → P a1 a2 a3 a4 a5 a6 a7) → ∀ (a1 : A1) (a2 : A2) (a3 : A3) (a4 : A4) (a5 : A5) (a6 : A6) (a7 : A7), F self a1 a2 a3 a4 a5 a6 a7 = some o → P a1 a2 a3 a4 a5 a6 a7) : ∀ (n : Nat) (a1 : A1) (a2 : A2) (a3 : A3) (a4 : A4) (a5 : A5) (a6 : A6) (a7 : A7), fx7 F n a1 a2 a3 a4 a5 a6 a7 = some o → P a1 a2 a3 a4 a5 a6 a7
  | 0, _, _, _, _, _, _, _, h => by cases h
  | n + 1, a1, a2, a3, a4, a5, a6, a7, h => hs (fx7 F n) (fx7_of P hs n) a1 a2 a3 a4 a5 a6 a7 h
def jn8 {A1 A2 A3 A4 A5 A6 A7 A8 β : Type} (b : (A1 → A2 → A3 → A4 → A5 → A6 → A7 → A8 → Option β) → Option β) (j : A1 → A2 → A3 → A4 → A5 → A6 → A7 → A8 → Option β) : Option β := b j
theorem jn8_of {A1 A2 A3 A4 A5 A6 A7 A8 β : Type} {b : (A1 → A2 → A3 → A4 → A5 → A6 → A7 → A8 → Option β) → Option β} {j : A1 → A2 → A3 → A4 → A5 → A6 → A7 → A8 → Option β} {o : β} {Go : Prop} (P : A1 → A2 → A3 → A4 → A5 → A6 → A7 → A8 → Prop) (E : jn8 b j = some o) (h1 : ∀ (a1 : A1) (a2 : A2) (a3 : A3) (a4 : A4) (a5 : A5) (a6 : A6) (a7 : A7) (a8 : A8), j a1 a2 a3 a4 a5 a6 a7 a8 = some o → P a1 a2 a3 a4 a5 a6 a7 a8) (h2 : ∀ j : A1 → A2 → A3 → A4 → A5 → A6 → A7 → A8 → Option β, (∀ (a1 : A1) (a2 : A2) (a3 : A3) (a4 : A4) (a5 : A5) (a6 : A6) (a7 : A7) (a8 : A8), j a1 a2 a3 a4 a5 a6 a7 a8 = some o → P a1 a2 a3 a4 a5 a6 a7 a8) → b j = some o → Go) : Go := h2 j h1 E
def fx8 {A1 A2 A3 A4 A5 A6 A7 A8 β : Type} (F : (A1 → A2 → A3 → A4 → A5 → A6 → A7 → A8 → Option β) → A1 → A2 → A3 → A4 → A5 → A6 → A7 → A8 → Option β) : Nat → A1 → A2 → A3 → A4 → A5 → A6 → A7 → A8 → Option β
  | 0, _, _, _, _, _, _, _, _ => none
  | n + 1, a1, a2, a3, a4, a5, a6, a7, a8 => F (fx8 F n) a1 a2 a3 a4 a5 a6 a7 a8
theorem fx8_of {A1 A2 A3 A4 A5 A6 A7 A8 β : Type} {F : (A1 → A2 → A3 → A4 → A5 → A6 → A7 → A8 → Option β) → A1 → A2 → A3 → A4 → A5 → A6 → A7 → A8 → Option β} {o : β} (P : A1 → A2 → A3 → A4 → A5 → A6 → A7 → A8 → Prop) (hs : ∀ self : A1 → A2 → A3 → A4 → A5 → A6 → A7 → A8 → Option β, (∀ (a1 : A1) (a2 : A2) (a3 : A3) (a4 : A4) (a5 : A5) (a6 : A6) (a7 : A7) (a8 : A8), self a1 a2 a3 a4 a5 a6 a7 a8 = some o → P a1 a2 a3 a4 a5 a6 a7 a8) → ∀ (a1 : A1) (a2 : A2) (a3 : A3) (a4 : A4) (a5 : A5) (a6 : A6) (a7 : A7) (a8 : A8), F self a1 a2 a3 a4 a5 a6 a7 a8 = some o → P a1 a2 a3 a4 a5 a6 a7 a8) : ∀ (n : Nat) (a1 : A1) (a2 : A2) (a3 : A3) (a4 : A4) (a5 : A5) (a6 : A6) (a7 : A7) (a8 : A8), fx8 F n a1 a2 a3 a4 a5 a6 a7 a8 = some o → P a1 a2 a3 a4 a5 a6 a7 a8
  | 0, _, _, _, _, _, _, _, _, h => by cases h
  | n + 1, a1, a2, a3, a4, a5, a6, a7, a8, h => hs (fx8 F n) (fx8_of P hs n) a1 a2 a3 a4 a5 a6 a7 a8 h
def jn9 {A1 A2 A3 A4 A5 A6 A7 A8 A9 β : Type} (b : (A1 → A2 → A3 → A4 → A5 → A6 → A7 → A8 → A9 → Option β) → Option β) (j : A1 → A2 → A3 → A4 → A5 → A6 → A7 → A8 → A9 → Option β) : Option β := b j
theorem jn9_of {A1 A2 A3 A4 A5 A6 A7 A8 A9 β : Type} {b : (A1 → A2 → A3 → A4 → A5 → A6 → A7 → A8 → A9 → Option β) → Option β} {j : A1 → A2 → A3 → A4 → A5 → A6 → A7 → A8 → A9 → Option β} {o : β} {Go : Prop} (P : A1 → A2 → A3 → A4 → A5 → A6 → A7 → A8 → A9 → Prop) (E : jn9 b j = some o) (h1 : ∀ (a1 : A1) (a2 : A2) (a3 : A3) (a4 : A4) (a5 : A5) (a6 : A6) (a7 : A7) (a8 : A8) (a9 : A9), j a1 a2 a3 a4 a5 a6 a7 a8 a9 = some o → P a1 a2 a3 a4 a5 a6 a7 a8 a9) (h2 : ∀ j : A1 → A2 → A3 → A4 → A5 → A6 → A7 → A8 → A9 → Option β, (∀ (a1 : A1) (a2 : A2) (a3 : A3) (a4 : A4) (a5 : A5) (a6 : A6) (a7 : A7) (a8 : A8) (a9 : A9), j a1 a2 a3 a4 a5 a6 a7 a8 a9 = some o → P a1 a2 a3 a4 a5 a6 a7 a8 a9) → b j = some o → Go) : Go := h2 j h1 E
def fx9 {A1 A2 A3 A4 A5 A6 A7 A8 A9 β : Type} (F : (A1 → A2 → A3 → A4 → A5 → A6 → A7 → A8 → A9 → Option β) → A1 → A2 → A3 → A4 → A5 → A6 → A7 → A8 → A9 → Option β) : Nat → A1 → A2 → A3 → A4 → A5 → A6 → A7 → A8 → A9 → Option β
  | 0, _, _, _, _, _, _, _, _, _ => none
  | n + 1, a1, a2, a3, a4, a5, a6, a7, a8, a9 => F (fx9 F n) a1 a2 a3 a4 a5 a6 a7 a8 a9
theorem fx9_of {A1 A2 A3 A4 A5 A6 A7 A8 A9 β : Type} {F : (A1 → A2 → A3 → A4 → A5 → A6 → A7 → A8 → A9 → Option β) → A1 → A2 → A3 → A4 → A5 → A6 → A7 → A8 → A9 → Option β} {o : β} (P : A1 → A2 → A3 → A4 → A5 → A6 → A7 → A8 → A9 → Prop) (hs : ∀ self : A1 → A2 → A3 → A4 → A5 → A6 → A7 → A8 → A9 → Option β, (∀ (a1 : A1) (a2 : A2) (a3 : A3) (a4 : A4) (a5 : A5) (a6 : A6) (a7 : A7) (a8 : A8) (a9 : A9), self a1 a2 a3 a4 a5 a6 a7 a8 a9 = some o → P a1 a2 a3 a4 a5 a6 a7 a8 a9) → ∀ (a1 : A1) (a2 : A2) (a3 : A3) (a4 : A4) (a5 : A5) (a6 : A6) (a7 : A7) (a8 : A8) (a9 : A9), F self a1 a2 a3 a4 a5 a6 a7 a8 a9 = some o → P a1 a2 a3 a4 a5 a6 a7 a8 a9) : ∀ (n : Nat) (a1 : A1) (a2 : A2) (a3 : A3) (a4 : A4) (a5 : A5) (a6 : A6) (a7 : A7) (a8 : A8) (a9 : A9), fx9 F n a1 a2 a3 a4 a5 a6 a7 a8 a9 = some o → P a1 a2 a3 a4 a5 a6 a7 a8 a9
  | 0, _, _, _, _, _, _, _, _, _, h => by cases h
  | n + 1, a1, a2, a3, a4, a5, a6, a7, a8, a9, h => hs (fx9 F n) (fx9_of P hs n) a1 a2 a3 a4 a5 a6 a7 a8 a9 h
section GR
variable {S : Type} {l : Launch} {D : va_G} {cy : Nat → ClassId} {X : Cx} {cc : ByteArray} {own : String} {nL : Nat} {R : Room} {wf : S → va_W} {k n : Nat} {h : S} {pc pc' : Nat} {lv : List (Nat × Value)} {st : List Value}

theorem g_iconst {z : Int} {v : Int32} (O : Ok l D cy X cc own nL R) (d : Dc cc pc (.iconst z) 1 pc') (hv : Int32.ofInt z = v) (kk : G l D X nL wf k n h pc' lv (.int v :: st)) : G l D X nL wf k n h pc lv (st) := by
  obtain ⟨p, e, R', s, m, args, below, meth, c, Q, A⟩ := X
  obtain ⟨rfl, hx, hb, hml, hown, hts, hK, hA, hlk, hE⟩ := O
  obtain ⟨d, rfl⟩ := d
  intro H locs ls hP hD hS hl
  exact lv_iconst hx hb d hv (kk H locs ls hP hD hS hl)
theorem g_bipush {z : Int} {v : Int32} (O : Ok l D cy X cc own nL R) (d : Dc cc pc (.bipush z) 2 pc') (hv : (Int8.ofInt z).toInt32 = v) (kk : G l D X nL wf k n h pc' lv (.int v :: st)) : G l D X nL wf k n h pc lv (st) := by
  obtain ⟨p, e, R', s, m, args, below, meth, c, Q, A⟩ := X
  obtain ⟨rfl, hx, hb, hml, hown, hts, hK, hA, hlk, hE⟩ := O
  obtain ⟨d, rfl⟩ := d
  intro H locs ls hP hD hS hl
  exact lv_bipush hx hb d hv (kk H locs ls hP hD hS hl)
theorem g_sipush {z : Int} {v : Int32} (O : Ok l D cy X cc own nL R) (d : Dc cc pc (.sipush z) 3 pc') (hv : (Int16.ofInt z).toInt32 = v) (kk : G l D X nL wf k n h pc' lv (.int v :: st)) : G l D X nL wf k n h pc lv (st) := by
  obtain ⟨p, e, R', s, m, args, below, meth, c, Q, A⟩ := X
  obtain ⟨rfl, hx, hb, hml, hown, hts, hK, hA, hlk, hE⟩ := O
  obtain ⟨d, rfl⟩ := d
  intro H locs ls hP hD hS hl
  exact lv_sipush hx hb d hv (kk H locs ls hP hD hS hl)
theorem g_lconst {z : Fin 2} {v : Int64} (O : Ok l D cy X cc own nL R) (d : Dc cc pc (.lconst z) 1 pc') (hv : Int64.ofNat (z : Nat) = v) (kk : G l D X nL wf k n h pc' lv (.long v :: st)) : G l D X nL wf k n h pc lv (st) := by
  obtain ⟨p, e, R', s, m, args, below, meth, c, Q, A⟩ := X
  obtain ⟨rfl, hx, hb, hml, hown, hts, hK, hA, hlk, hE⟩ := O
  obtain ⟨d, rfl⟩ := d
  intro H locs ls hP hD hS hl
  exact lv_lconst hx hb d hv (kk H locs ls hP hD hS hl)
theorem g_ldc2 {v : Int64} {ix : Nat} (O : Ok l D cy X cc own nL R) (d : Dc cc pc (.ldc2_w ix) 3 pc') (kw : Cond.constantLong own ix v ∈ TW) (kk : G l D X nL wf k n h pc' lv (.long v :: st)) : G l D X nL wf k n h pc lv (st) := by
  obtain ⟨p, e, R', s, m, args, below, meth, c, Q, A⟩ := X
  obtain ⟨rfl, hx, hb, hml, hown, hts, hK, hA, hlk, hE⟩ := O
  obtain ⟨d, rfl⟩ := d
  intro H locs ls hP hD hS hl
  exact lv_ldc2 hx hb hown (hts _ kw) d (kk H locs ls hP hD hS hl)
theorem g_ldc {v : Int32} {ix : Nat} (O : Ok l D cy X cc own nL R) (d : Dc cc pc (.ldc ix) 2 pc') (kw : Cond.constant own ix v ∈ TW) (kk : G l D X nL wf k n h pc' lv (.int v :: st)) : G l D X nL wf k n h pc lv (st) := by
  obtain ⟨p, e, R', s, m, args, below, meth, c, Q, A⟩ := X
  obtain ⟨rfl, hx, hb, hml, hown, hts, hK, hA, hlk, hE⟩ := O
  obtain ⟨d, rfl⟩ := d
  intro H locs ls hP hD hS hl
  exact lv_ldc hx hb hown (hts _ kw) d (kk H locs ls hP hD hS hl)
theorem g_ldcw {v : Int32} {ix : Nat} (O : Ok l D cy X cc own nL R) (d : Dc cc pc (.ldc_w ix) 3 pc') (kw : Cond.constant own ix v ∈ TW) (kk : G l D X nL wf k n h pc' lv (.int v :: st)) : G l D X nL wf k n h pc lv (st) := by
  obtain ⟨p, e, R', s, m, args, below, meth, c, Q, A⟩ := X
  obtain ⟨rfl, hx, hb, hml, hown, hts, hK, hA, hlk, hE⟩ := O
  obtain ⟨d, rfl⟩ := d
  intro H locs ls hP hD hS hl
  exact lv_ldcw hx hb hown (hts _ kw) d (kk H locs ls hP hD hS hl)
theorem g_iload_n {j : Fin 4} {i q : Nat} {x : Int32} (O : Ok l D cy X cc own nL R) (d : Dc cc pc (.iload_n j) 1 pc') (hi : (j : Nat) = i) (hq : lv[q]? = some (i, .int x)) (kk : G l D X nL wf k n h pc' lv (.int x :: st)) : G l D X nL wf k n h pc lv (st) := by
  obtain ⟨p, e, R', s, m, args, below, meth, c, Q, A⟩ := X
  obtain ⟨rfl, hx, hb, hml, hown, hts, hK, hA, hlk, hE⟩ := O
  obtain ⟨d, rfl⟩ := d
  intro H locs ls hP hD hS hl
  exact lv_iload_n hx hb d hi (lv_at hl q hq) (kk H locs ls hP hD hS hl)
theorem g_iload {i q : Nat} {x : Int32} (O : Ok l D cy X cc own nL R) (d : Dc cc pc (.iload i) 2 pc') (hq : lv[q]? = some (i, .int x)) (kk : G l D X nL wf k n h pc' lv (.int x :: st)) : G l D X nL wf k n h pc lv (st) := by
  obtain ⟨p, e, R', s, m, args, below, meth, c, Q, A⟩ := X
  obtain ⟨rfl, hx, hb, hml, hown, hts, hK, hA, hlk, hE⟩ := O
  obtain ⟨d, rfl⟩ := d
  intro H locs ls hP hD hS hl
  exact lv_iload hx hb d (lv_at hl q hq) (kk H locs ls hP hD hS hl)
theorem g_istore_n {j : Fin 4} {i : Nat} {x : Int32} {lv' : List (Nat × Value)} (O : Ok l D cy X cc own nL R) (d : Dc cc pc (.istore_n j) 1 pc') (hi : (j : Nat) = i) (hn : i < nL) (hl' : (i, .int x) :: lv.filter (fun q => !(q.1 == i) && !(q.1 + 1 == i && q.2.category == 2)) = lv') (kk : G l D X nL wf k n h pc' lv' st) : G l D X nL wf k n h pc lv (.int x :: st) := by
  obtain ⟨p, e, R', s, m, args, below, meth, c, Q, A⟩ := X
  obtain ⟨rfl, hx, hb, hml, hown, hts, hK, hA, hlk, hE⟩ := O
  obtain ⟨d, rfl⟩ := d
  intro H locs ls hP hD hS hl
  exact lv_istore_n hx hb d hi hl hn hl' (fun ls1 hl1 => kk H locs ls1 hP hD hS hl1)
theorem g_istore {i : Nat} {x : Int32} {lv' : List (Nat × Value)} (O : Ok l D cy X cc own nL R) (d : Dc cc pc (.istore i) 2 pc') (hn : i < nL) (hl' : (i, .int x) :: lv.filter (fun q => !(q.1 == i) && !(q.1 + 1 == i && q.2.category == 2)) = lv') (kk : G l D X nL wf k n h pc' lv' st) : G l D X nL wf k n h pc lv (.int x :: st) := by
  obtain ⟨p, e, R', s, m, args, below, meth, c, Q, A⟩ := X
  obtain ⟨rfl, hx, hb, hml, hown, hts, hK, hA, hlk, hE⟩ := O
  obtain ⟨d, rfl⟩ := d
  intro H locs ls hP hD hS hl
  exact lv_istore hx hb d hl hn hl' (fun ls1 hl1 => kk H locs ls1 hP hD hS hl1)
theorem g_lload_n {j : Fin 4} {i q : Nat} {x : Int64} (O : Ok l D cy X cc own nL R) (d : Dc cc pc (.lload_n j) 1 pc') (hi : (j : Nat) = i) (hq : lv[q]? = some (i, .long x)) (kk : G l D X nL wf k n h pc' lv (.long x :: st)) : G l D X nL wf k n h pc lv (st) := by
  obtain ⟨p, e, R', s, m, args, below, meth, c, Q, A⟩ := X
  obtain ⟨rfl, hx, hb, hml, hown, hts, hK, hA, hlk, hE⟩ := O
  obtain ⟨d, rfl⟩ := d
  intro H locs ls hP hD hS hl
  exact lv_lload_n hx hb d hi (lv_at hl q hq) (kk H locs ls hP hD hS hl)
theorem g_lload {i q : Nat} {x : Int64} (O : Ok l D cy X cc own nL R) (d : Dc cc pc (.lload i) 2 pc') (hq : lv[q]? = some (i, .long x)) (kk : G l D X nL wf k n h pc' lv (.long x :: st)) : G l D X nL wf k n h pc lv (st) := by
  obtain ⟨p, e, R', s, m, args, below, meth, c, Q, A⟩ := X
  obtain ⟨rfl, hx, hb, hml, hown, hts, hK, hA, hlk, hE⟩ := O
  obtain ⟨d, rfl⟩ := d
  intro H locs ls hP hD hS hl
  exact lv_lload hx hb d (lv_at hl q hq) (kk H locs ls hP hD hS hl)
theorem g_lstore_n {j : Fin 4} {i : Nat} {x : Int64} {lv' : List (Nat × Value)} (O : Ok l D cy X cc own nL R) (d : Dc cc pc (.lstore_n j) 1 pc') (hi : (j : Nat) = i) (hn : i + 1 < nL) (hl' : (i, .long x) :: lv.filter (fun q => !(q.1 == i) && (!(q.1 == i + 1) && !(q.1 + 1 == i && q.2.category == 2))) = lv') (kk : G l D X nL wf k n h pc' lv' st) : G l D X nL wf k n h pc lv (.long x :: st) := by
  obtain ⟨p, e, R', s, m, args, below, meth, c, Q, A⟩ := X
  obtain ⟨rfl, hx, hb, hml, hown, hts, hK, hA, hlk, hE⟩ := O
  obtain ⟨d, rfl⟩ := d
  intro H locs ls hP hD hS hl
  exact lv_lstore_n hx hb d hi hl hn hl' (fun ls1 hl1 => kk H locs ls1 hP hD hS hl1)
theorem g_lstore {i : Nat} {x : Int64} {lv' : List (Nat × Value)} (O : Ok l D cy X cc own nL R) (d : Dc cc pc (.lstore i) 2 pc') (hn : i + 1 < nL) (hl' : (i, .long x) :: lv.filter (fun q => !(q.1 == i) && (!(q.1 == i + 1) && !(q.1 + 1 == i && q.2.category == 2))) = lv') (kk : G l D X nL wf k n h pc' lv' st) : G l D X nL wf k n h pc lv (.long x :: st) := by
  obtain ⟨p, e, R', s, m, args, below, meth, c, Q, A⟩ := X
  obtain ⟨rfl, hx, hb, hml, hown, hts, hK, hA, hlk, hE⟩ := O
  obtain ⟨d, rfl⟩ := d
  intro H locs ls hP hD hS hl
  exact lv_lstore hx hb d hl hn hl' (fun ls1 hl1 => kk H locs ls1 hP hD hS hl1)
theorem g_aload_n {j : Fin 4} {i q : Nat} {x : Nat} (O : Ok l D cy X cc own nL R) (d : Dc cc pc (.aload_n j) 1 pc') (hi : (j : Nat) = i) (hq : lv[q]? = some (i, .ref x)) (kk : G l D X nL wf k n h pc' lv (.ref x :: st)) : G l D X nL wf k n h pc lv (st) := by
  obtain ⟨p, e, R', s, m, args, below, meth, c, Q, A⟩ := X
  obtain ⟨rfl, hx, hb, hml, hown, hts, hK, hA, hlk, hE⟩ := O
  obtain ⟨d, rfl⟩ := d
  intro H locs ls hP hD hS hl
  exact lv_aload_n hx hb d hi (lv_at hl q hq) (kk H locs ls hP hD hS hl)
theorem g_aload {i q : Nat} {x : Nat} (O : Ok l D cy X cc own nL R) (d : Dc cc pc (.aload i) 2 pc') (hq : lv[q]? = some (i, .ref x)) (kk : G l D X nL wf k n h pc' lv (.ref x :: st)) : G l D X nL wf k n h pc lv (st) := by
  obtain ⟨p, e, R', s, m, args, below, meth, c, Q, A⟩ := X
  obtain ⟨rfl, hx, hb, hml, hown, hts, hK, hA, hlk, hE⟩ := O
  obtain ⟨d, rfl⟩ := d
  intro H locs ls hP hD hS hl
  exact lv_aload hx hb d (lv_at hl q hq) (kk H locs ls hP hD hS hl)
theorem g_astore_n {j : Fin 4} {i : Nat} {x : Nat} {lv' : List (Nat × Value)} (O : Ok l D cy X cc own nL R) (d : Dc cc pc (.astore_n j) 1 pc') (hi : (j : Nat) = i) (hn : i < nL) (hl' : (i, .ref x) :: lv.filter (fun q => !(q.1 == i) && !(q.1 + 1 == i && q.2.category == 2)) = lv') (kk : G l D X nL wf k n h pc' lv' st) : G l D X nL wf k n h pc lv (.ref x :: st) := by
  obtain ⟨p, e, R', s, m, args, below, meth, c, Q, A⟩ := X
  obtain ⟨rfl, hx, hb, hml, hown, hts, hK, hA, hlk, hE⟩ := O
  obtain ⟨d, rfl⟩ := d
  intro H locs ls hP hD hS hl
  exact lv_astore_n hx hb d hi hl hn hl' (fun ls1 hl1 => kk H locs ls1 hP hD hS hl1)
theorem g_astore {i : Nat} {x : Nat} {lv' : List (Nat × Value)} (O : Ok l D cy X cc own nL R) (d : Dc cc pc (.astore i) 2 pc') (hn : i < nL) (hl' : (i, .ref x) :: lv.filter (fun q => !(q.1 == i) && !(q.1 + 1 == i && q.2.category == 2)) = lv') (kk : G l D X nL wf k n h pc' lv' st) : G l D X nL wf k n h pc lv (.ref x :: st) := by
  obtain ⟨p, e, R', s, m, args, below, meth, c, Q, A⟩ := X
  obtain ⟨rfl, hx, hb, hml, hown, hts, hK, hA, hlk, hE⟩ := O
  obtain ⟨d, rfl⟩ := d
  intro H locs ls hP hD hS hl
  exact lv_astore hx hb d hl hn hl' (fun ls1 hl1 => kk H locs ls1 hP hD hS hl1)
theorem g_iinc {i q : Nat} {z : Int} {x v : Int32} {lv' : List (Nat × Value)} (O : Ok l D cy X cc own nL R) (d : Dc cc pc (.iinc i z) 3 pc') (hq : lv[q]? = some (i, .int x)) (hv : x + Int32.ofInt z = v) (hn : i < nL) (hl' : (i, Value.int v) :: lv.filter (fun q => !(q.1 == i) && !(q.1 + 1 == i && q.2.category == 2)) = lv') (kk : G l D X nL wf k n h pc' lv' st) : G l D X nL wf k n h pc lv st := by
  obtain ⟨p, e, R', s, m, args, below, meth, c, Q, A⟩ := X
  obtain ⟨rfl, hx, hb, hml, hown, hts, hK, hA, hlk, hE⟩ := O
  obtain ⟨d, rfl⟩ := d
  intro H locs ls hP hD hS hl
  exact lv_iinc hx hb d hl hq hv hn hl' (fun ls1 hl1 => kk H locs ls1 hP hD hS hl1)
theorem g_iadd {x y : Int32} (O : Ok l D cy X cc own nL R) (d : Dc cc pc (.iadd) 1 pc') (kk : G l D X nL wf k n h pc' lv (.int (x + y) :: st)) : G l D X nL wf k n h pc lv (.int y :: .int x :: st) := by
  obtain ⟨p, e, R', s, m, args, below, meth, c, Q, A⟩ := X
  obtain ⟨rfl, hx, hb, hml, hown, hts, hK, hA, hlk, hE⟩ := O
  obtain ⟨d, rfl⟩ := d
  intro H locs ls hP hD hS hl
  exact lv_iadd hx hb d (kk H locs ls hP hD hS hl)
theorem g_isub {x y : Int32} (O : Ok l D cy X cc own nL R) (d : Dc cc pc (.isub) 1 pc') (kk : G l D X nL wf k n h pc' lv (.int (x - y) :: st)) : G l D X nL wf k n h pc lv (.int y :: .int x :: st) := by
  obtain ⟨p, e, R', s, m, args, below, meth, c, Q, A⟩ := X
  obtain ⟨rfl, hx, hb, hml, hown, hts, hK, hA, hlk, hE⟩ := O
  obtain ⟨d, rfl⟩ := d
  intro H locs ls hP hD hS hl
  exact lv_isub hx hb d (kk H locs ls hP hD hS hl)
theorem g_imul {x y : Int32} (O : Ok l D cy X cc own nL R) (d : Dc cc pc (.imul) 1 pc') (kk : G l D X nL wf k n h pc' lv (.int (x * y) :: st)) : G l D X nL wf k n h pc lv (.int y :: .int x :: st) := by
  obtain ⟨p, e, R', s, m, args, below, meth, c, Q, A⟩ := X
  obtain ⟨rfl, hx, hb, hml, hown, hts, hK, hA, hlk, hE⟩ := O
  obtain ⟨d, rfl⟩ := d
  intro H locs ls hP hD hS hl
  exact lv_imul hx hb d (kk H locs ls hP hD hS hl)
theorem g_iand {x y : Int32} (O : Ok l D cy X cc own nL R) (d : Dc cc pc (.iand) 1 pc') (kk : G l D X nL wf k n h pc' lv (.int (x &&& y) :: st)) : G l D X nL wf k n h pc lv (.int y :: .int x :: st) := by
  obtain ⟨p, e, R', s, m, args, below, meth, c, Q, A⟩ := X
  obtain ⟨rfl, hx, hb, hml, hown, hts, hK, hA, hlk, hE⟩ := O
  obtain ⟨d, rfl⟩ := d
  intro H locs ls hP hD hS hl
  exact lv_iand hx hb d (kk H locs ls hP hD hS hl)
theorem g_ior {x y : Int32} (O : Ok l D cy X cc own nL R) (d : Dc cc pc (.ior) 1 pc') (kk : G l D X nL wf k n h pc' lv (.int (x ||| y) :: st)) : G l D X nL wf k n h pc lv (.int y :: .int x :: st) := by
  obtain ⟨p, e, R', s, m, args, below, meth, c, Q, A⟩ := X
  obtain ⟨rfl, hx, hb, hml, hown, hts, hK, hA, hlk, hE⟩ := O
  obtain ⟨d, rfl⟩ := d
  intro H locs ls hP hD hS hl
  exact lv_ior hx hb d (kk H locs ls hP hD hS hl)
theorem g_ixor {x y : Int32} (O : Ok l D cy X cc own nL R) (d : Dc cc pc (.ixor) 1 pc') (kk : G l D X nL wf k n h pc' lv (.int (x ^^^ y) :: st)) : G l D X nL wf k n h pc lv (.int y :: .int x :: st) := by
  obtain ⟨p, e, R', s, m, args, below, meth, c, Q, A⟩ := X
  obtain ⟨rfl, hx, hb, hml, hown, hts, hK, hA, hlk, hE⟩ := O
  obtain ⟨d, rfl⟩ := d
  intro H locs ls hP hD hS hl
  exact lv_ixor hx hb d (kk H locs ls hP hD hS hl)
theorem g_ishl {x y : Int32} (O : Ok l D cy X cc own nL R) (d : Dc cc pc (.ishl) 1 pc') (kk : G l D X nL wf k n h pc' lv (.int (ishl x y) :: st)) : G l D X nL wf k n h pc lv (.int y :: .int x :: st) := by
  obtain ⟨p, e, R', s, m, args, below, meth, c, Q, A⟩ := X
  obtain ⟨rfl, hx, hb, hml, hown, hts, hK, hA, hlk, hE⟩ := O
  obtain ⟨d, rfl⟩ := d
  intro H locs ls hP hD hS hl
  exact lv_ishl hx hb d (kk H locs ls hP hD hS hl)
theorem g_ishr {x y : Int32} (O : Ok l D cy X cc own nL R) (d : Dc cc pc (.ishr) 1 pc') (kk : G l D X nL wf k n h pc' lv (.int (ishr x y) :: st)) : G l D X nL wf k n h pc lv (.int y :: .int x :: st) := by
  obtain ⟨p, e, R', s, m, args, below, meth, c, Q, A⟩ := X
  obtain ⟨rfl, hx, hb, hml, hown, hts, hK, hA, hlk, hE⟩ := O
  obtain ⟨d, rfl⟩ := d
  intro H locs ls hP hD hS hl
  exact lv_ishr hx hb d (kk H locs ls hP hD hS hl)
theorem g_idiv {x y : Int32} (O : Ok l D cy X cc own nL R) (d : Dc cc pc (.idiv) 1 pc') (hy : ¬ y = 0) (kk : G l D X nL wf k n h pc' lv (.int (x / y) :: st)) : G l D X nL wf k n h pc lv (.int y :: .int x :: st) := by
  obtain ⟨p, e, R', s, m, args, below, meth, c, Q, A⟩ := X
  obtain ⟨rfl, hx, hb, hml, hown, hts, hK, hA, hlk, hE⟩ := O
  obtain ⟨d, rfl⟩ := d
  intro H locs ls hP hD hS hl
  exact lv_idiv hx hb d hy (kk H locs ls hP hD hS hl)
theorem g_irem {x y : Int32} (O : Ok l D cy X cc own nL R) (d : Dc cc pc (.irem) 1 pc') (hy : ¬ y = 0) (kk : G l D X nL wf k n h pc' lv (.int (irm x y) :: st)) : G l D X nL wf k n h pc lv (.int y :: .int x :: st) := by
  obtain ⟨p, e, R', s, m, args, below, meth, c, Q, A⟩ := X
  obtain ⟨rfl, hx, hb, hml, hown, hts, hK, hA, hlk, hE⟩ := O
  obtain ⟨d, rfl⟩ := d
  intro H locs ls hP hD hS hl
  exact lv_irem hx hb d hy (kk H locs ls hP hD hS hl)
theorem g_ladd {x y : Int64} (O : Ok l D cy X cc own nL R) (d : Dc cc pc (.ladd) 1 pc') (kk : G l D X nL wf k n h pc' lv (.long (x + y) :: st)) : G l D X nL wf k n h pc lv (.long y :: .long x :: st) := by
  obtain ⟨p, e, R', s, m, args, below, meth, c, Q, A⟩ := X
  obtain ⟨rfl, hx, hb, hml, hown, hts, hK, hA, hlk, hE⟩ := O
  obtain ⟨d, rfl⟩ := d
  intro H locs ls hP hD hS hl
  exact lv_ladd hx hb d (kk H locs ls hP hD hS hl)
theorem g_lsub {x y : Int64} (O : Ok l D cy X cc own nL R) (d : Dc cc pc (.lsub) 1 pc') (kk : G l D X nL wf k n h pc' lv (.long (x - y) :: st)) : G l D X nL wf k n h pc lv (.long y :: .long x :: st) := by
  obtain ⟨p, e, R', s, m, args, below, meth, c, Q, A⟩ := X
  obtain ⟨rfl, hx, hb, hml, hown, hts, hK, hA, hlk, hE⟩ := O
  obtain ⟨d, rfl⟩ := d
  intro H locs ls hP hD hS hl
  exact lv_lsub hx hb d (kk H locs ls hP hD hS hl)
theorem g_land {x y : Int64} (O : Ok l D cy X cc own nL R) (d : Dc cc pc (.land) 1 pc') (kk : G l D X nL wf k n h pc' lv (.long (x &&& y) :: st)) : G l D X nL wf k n h pc lv (.long y :: .long x :: st) := by
  obtain ⟨p, e, R', s, m, args, below, meth, c, Q, A⟩ := X
  obtain ⟨rfl, hx, hb, hml, hown, hts, hK, hA, hlk, hE⟩ := O
  obtain ⟨d, rfl⟩ := d
  intro H locs ls hP hD hS hl
  exact lv_land hx hb d (kk H locs ls hP hD hS hl)
theorem g_lor {x y : Int64} (O : Ok l D cy X cc own nL R) (d : Dc cc pc (.lor) 1 pc') (kk : G l D X nL wf k n h pc' lv (.long (x ||| y) :: st)) : G l D X nL wf k n h pc lv (.long y :: .long x :: st) := by
  obtain ⟨p, e, R', s, m, args, below, meth, c, Q, A⟩ := X
  obtain ⟨rfl, hx, hb, hml, hown, hts, hK, hA, hlk, hE⟩ := O
  obtain ⟨d, rfl⟩ := d
  intro H locs ls hP hD hS hl
  exact lv_lor hx hb d (kk H locs ls hP hD hS hl)
theorem g_lxor {x y : Int64} (O : Ok l D cy X cc own nL R) (d : Dc cc pc (.lxor) 1 pc') (kk : G l D X nL wf k n h pc' lv (.long (x ^^^ y) :: st)) : G l D X nL wf k n h pc lv (.long y :: .long x :: st) := by
  obtain ⟨p, e, R', s, m, args, below, meth, c, Q, A⟩ := X
  obtain ⟨rfl, hx, hb, hml, hown, hts, hK, hA, hlk, hE⟩ := O
  obtain ⟨d, rfl⟩ := d
  intro H locs ls hP hD hS hl
  exact lv_lxor hx hb d (kk H locs ls hP hD hS hl)
theorem g_lmul {x y : Int64} (O : Ok l D cy X cc own nL R) (d : Dc cc pc (.lmul) 1 pc') (kk : G l D X nL wf k n h pc' lv (.long (x * y) :: st)) : G l D X nL wf k n h pc lv (.long y :: .long x :: st) := by
  obtain ⟨p, e, R', s, m, args, below, meth, c, Q, A⟩ := X
  obtain ⟨rfl, hx, hb, hml, hown, hts, hK, hA, hlk, hE⟩ := O
  obtain ⟨d, rfl⟩ := d
  intro H locs ls hP hD hS hl
  exact lv_lmul hx hb d (kk H locs ls hP hD hS hl)
theorem g_ldiv {x y : Int64} (O : Ok l D cy X cc own nL R) (d : Dc cc pc (.ldiv) 1 pc') (hy : ¬ y = 0) (kk : G l D X nL wf k n h pc' lv (.long (x / y) :: st)) : G l D X nL wf k n h pc lv (.long y :: .long x :: st) := by
  obtain ⟨p, e, R', s, m, args, below, meth, c, Q, A⟩ := X
  obtain ⟨rfl, hx, hb, hml, hown, hts, hK, hA, hlk, hE⟩ := O
  obtain ⟨d, rfl⟩ := d
  intro H locs ls hP hD hS hl
  exact lv_ldiv hx hb d hy (kk H locs ls hP hD hS hl)
theorem g_lrem {x y : Int64} (O : Ok l D cy X cc own nL R) (d : Dc cc pc (.lrem) 1 pc') (hy : ¬ y = 0) (kk : G l D X nL wf k n h pc' lv (.long (lrm x y) :: st)) : G l D X nL wf k n h pc lv (.long y :: .long x :: st) := by
  obtain ⟨p, e, R', s, m, args, below, meth, c, Q, A⟩ := X
  obtain ⟨rfl, hx, hb, hml, hown, hts, hK, hA, hlk, hE⟩ := O
  obtain ⟨d, rfl⟩ := d
  intro H locs ls hP hD hS hl
  exact lv_lrem hx hb d hy (kk H locs ls hP hD hS hl)
theorem g_ineg {x : Int32} (O : Ok l D cy X cc own nL R) (d : Dc cc pc (.ineg) 1 pc') (kk : G l D X nL wf k n h pc' lv (.int (-x) :: st)) : G l D X nL wf k n h pc lv (.int x :: st) := by
  obtain ⟨p, e, R', s, m, args, below, meth, c, Q, A⟩ := X
  obtain ⟨rfl, hx, hb, hml, hown, hts, hK, hA, hlk, hE⟩ := O
  obtain ⟨d, rfl⟩ := d
  intro H locs ls hP hD hS hl
  exact lv_ineg hx hb d (kk H locs ls hP hD hS hl)
theorem g_lshl {x : Int64} {y : Int32} (O : Ok l D cy X cc own nL R) (d : Dc cc pc (.lshl) 1 pc') (kk : G l D X nL wf k n h pc' lv (.long (lshl x y) :: st)) : G l D X nL wf k n h pc lv (.int y :: .long x :: st) := by
  obtain ⟨p, e, R', s, m, args, below, meth, c, Q, A⟩ := X
  obtain ⟨rfl, hx, hb, hml, hown, hts, hK, hA, hlk, hE⟩ := O
  obtain ⟨d, rfl⟩ := d
  intro H locs ls hP hD hS hl
  exact lv_lshl hx hb d rfl (kk H locs ls hP hD hS hl)
theorem g_lshr {x : Int64} {y : Int32} (O : Ok l D cy X cc own nL R) (d : Dc cc pc (.lshr) 1 pc') (kk : G l D X nL wf k n h pc' lv (.long (lshr x y) :: st)) : G l D X nL wf k n h pc lv (.int y :: .long x :: st) := by
  obtain ⟨p, e, R', s, m, args, below, meth, c, Q, A⟩ := X
  obtain ⟨rfl, hx, hb, hml, hown, hts, hK, hA, hlk, hE⟩ := O
  obtain ⟨d, rfl⟩ := d
  intro H locs ls hP hD hS hl
  exact lv_lshr hx hb d rfl (kk H locs ls hP hD hS hl)
theorem g_lushr {x : Int64} {y : Int32} (O : Ok l D cy X cc own nL R) (d : Dc cc pc (.lushr) 1 pc') (kk : G l D X nL wf k n h pc' lv (.long (lushr x y) :: st)) : G l D X nL wf k n h pc lv (.int y :: .long x :: st) := by
  obtain ⟨p, e, R', s, m, args, below, meth, c, Q, A⟩ := X
  obtain ⟨rfl, hx, hb, hml, hown, hts, hK, hA, hlk, hE⟩ := O
  obtain ⟨d, rfl⟩ := d
  intro H locs ls hP hD hS hl
  exact lv_lushr hx hb d rfl (kk H locs ls hP hD hS hl)
theorem g_iushr {x y : Int32} (O : Ok l D cy X cc own nL R) (d : Dc cc pc (.iushr) 1 pc') (kk : G l D X nL wf k n h pc' lv (.int (iushr x y) :: st)) : G l D X nL wf k n h pc lv (.int y :: .int x :: st) := by
  obtain ⟨p, e, R', s, m, args, below, meth, c, Q, A⟩ := X
  obtain ⟨rfl, hx, hb, hml, hown, hts, hK, hA, hlk, hE⟩ := O
  obtain ⟨d, rfl⟩ := d
  intro H locs ls hP hD hS hl
  exact lv_iushr hx hb d rfl (kk H locs ls hP hD hS hl)
theorem g_i2l {x : Int32} (O : Ok l D cy X cc own nL R) (d : Dc cc pc (.i2l) 1 pc') (kk : G l D X nL wf k n h pc' lv (.long (i2l x) :: st)) : G l D X nL wf k n h pc lv (.int x :: st) := by
  obtain ⟨p, e, R', s, m, args, below, meth, c, Q, A⟩ := X
  obtain ⟨rfl, hx, hb, hml, hown, hts, hK, hA, hlk, hE⟩ := O
  obtain ⟨d, rfl⟩ := d
  intro H locs ls hP hD hS hl
  exact lv_i2l hx hb d rfl (kk H locs ls hP hD hS hl)
theorem g_l2i {x : Int64} (O : Ok l D cy X cc own nL R) (d : Dc cc pc (.l2i) 1 pc') (kk : G l D X nL wf k n h pc' lv (.int (l2i x) :: st)) : G l D X nL wf k n h pc lv (.long x :: st) := by
  obtain ⟨p, e, R', s, m, args, below, meth, c, Q, A⟩ := X
  obtain ⟨rfl, hx, hb, hml, hown, hts, hK, hA, hlk, hE⟩ := O
  obtain ⟨d, rfl⟩ := d
  intro H locs ls hP hD hS hl
  exact lv_l2i hx hb d rfl (kk H locs ls hP hD hS hl)
theorem g_i2b {x : Int32} (O : Ok l D cy X cc own nL R) (d : Dc cc pc (.i2b) 1 pc') (kk : G l D X nL wf k n h pc' lv (.int (i2b x) :: st)) : G l D X nL wf k n h pc lv (.int x :: st) := by
  obtain ⟨p, e, R', s, m, args, below, meth, c, Q, A⟩ := X
  obtain ⟨rfl, hx, hb, hml, hown, hts, hK, hA, hlk, hE⟩ := O
  obtain ⟨d, rfl⟩ := d
  intro H locs ls hP hD hS hl
  exact lv_i2b hx hb d rfl (kk H locs ls hP hD hS hl)
theorem g_i2c {x : Int32} (O : Ok l D cy X cc own nL R) (d : Dc cc pc (.i2c) 1 pc') (kk : G l D X nL wf k n h pc' lv (.int (i2c x) :: st)) : G l D X nL wf k n h pc lv (.int x :: st) := by
  obtain ⟨p, e, R', s, m, args, below, meth, c, Q, A⟩ := X
  obtain ⟨rfl, hx, hb, hml, hown, hts, hK, hA, hlk, hE⟩ := O
  obtain ⟨d, rfl⟩ := d
  intro H locs ls hP hD hS hl
  exact lv_i2c hx hb d rfl (kk H locs ls hP hD hS hl)
theorem g_lcmp {x y : Int64} (O : Ok l D cy X cc own nL R) (d : Dc cc pc (.lcmp) 1 pc') (kk : G l D X nL wf k n h pc' lv (.int (lg_cmp x y) :: st)) : G l D X nL wf k n h pc lv (.long y :: .long x :: st) := by
  obtain ⟨p, e, R', s, m, args, below, meth, c, Q, A⟩ := X
  obtain ⟨rfl, hx, hb, hml, hown, hts, hK, hA, hlk, hE⟩ := O
  obtain ⟨d, rfl⟩ := d
  intro H locs ls hP hD hS hl
  exact W.lcmp hx hb d (kk H locs ls hP hD hS hl)
theorem g_dup {v : Value} (O : Ok l D cy X cc own nL R) (d : Dc cc pc (.dup) 1 pc') (hv : v.category = 1) (kk : G l D X nL wf k n h pc' lv (v :: v :: st)) : G l D X nL wf k n h pc lv (v :: st) := by
  obtain ⟨p, e, R', s, m, args, below, meth, c, Q, A⟩ := X
  obtain ⟨rfl, hx, hb, hml, hown, hts, hK, hA, hlk, hE⟩ := O
  obtain ⟨d, rfl⟩ := d
  intro H locs ls hP hD hS hl
  exact lv_dup hx hb d hv (kk H locs ls hP hD hS hl)
theorem g_dup2 {v u : Value} (O : Ok l D cy X cc own nL R) (d : Dc cc pc (.dup2) 1 pc') (hv : v.category = 1) (hu : u.category = 1) (kk : G l D X nL wf k n h pc' lv (v :: u :: v :: u :: st)) : G l D X nL wf k n h pc lv (v :: u :: st) := by
  obtain ⟨p, e, R', s, m, args, below, meth, c, Q, A⟩ := X
  obtain ⟨rfl, hx, hb, hml, hown, hts, hK, hA, hlk, hE⟩ := O
  obtain ⟨d, rfl⟩ := d
  intro H locs ls hP hD hS hl
  exact lv_dup2_11 hx hb d hv hu (kk H locs ls hP hD hS hl)
theorem g_pop {v : Value} (O : Ok l D cy X cc own nL R) (d : Dc cc pc (.pop) 1 pc') (hv : v.category = 1) (kk : G l D X nL wf k n h pc' lv (st)) : G l D X nL wf k n h pc lv (v :: st) := by
  obtain ⟨p, e, R', s, m, args, below, meth, c, Q, A⟩ := X
  obtain ⟨rfl, hx, hb, hml, hown, hts, hK, hA, hlk, hE⟩ := O
  obtain ⟨d, rfl⟩ := d
  intro H locs ls hP hD hS hl
  exact lv_pop hx hb d hv (kk H locs ls hP hD hS hl)
theorem g_goto {off : Int} {tgt : Nat} (O : Ok l D cy X cc own nL R) (d : Dc cc pc (.goto off) 3 pc') (ht : (pc : Int) + off = (tgt : Int)) (kk : G l D X nL wf k n h tgt lv st) : G l D X nL wf k n h pc lv st := by
  obtain ⟨p, e, R', s, m, args, below, meth, c, Q, A⟩ := X
  obtain ⟨rfl, hx, hb, hml, hown, hts, hK, hA, hlk, hE⟩ := O
  obtain ⟨d, rfl⟩ := d
  intro H locs ls hP hD hS hl
  exact lv_goto hx hb d ht (kk H locs ls hP hD hS hl)
theorem g_icmp_eq {x y : Int32} {off : Int} {tgt : Nat} {β : Type} {a b : Option β} {o : β} (O : Ok l D cy X cc own nL R) (d : Dc cc pc (.if_icmp .eq off) 3 pc') (E : (if x = y then a else b) = some o) (ht : (pc : Int) + off = (tgt : Int)) (kt : a = some o → G l D X nL wf k n h tgt lv st) (kf : b = some o → G l D X nL wf k n h pc' lv st) : G l D X nL wf k n h pc lv (.int y :: .int x :: st) := by
  obtain ⟨p, e, R', s, m, args, below, meth, c, Q, A⟩ := X
  obtain ⟨rfl, hx, hb, hml, hown, hts, hK, hA, hlk, hE⟩ := O
  obtain ⟨d, rfl⟩ := d
  intro H locs ls hP hD hS hl
  exact lv_icmp_eq hx hb d ht (fun q => kt (ite_t E q) H locs ls hP hD hS hl) (fun q => kf (ite_f E q) H locs ls hP hD hS hl)
theorem g_icmp_ne {x y : Int32} {off : Int} {tgt : Nat} {β : Type} {a b : Option β} {o : β} (O : Ok l D cy X cc own nL R) (d : Dc cc pc (.if_icmp .ne off) 3 pc') (E : (if x = y then b else a) = some o) (ht : (pc : Int) + off = (tgt : Int)) (kt : a = some o → G l D X nL wf k n h tgt lv st) (kf : b = some o → G l D X nL wf k n h pc' lv st) : G l D X nL wf k n h pc lv (.int y :: .int x :: st) := by
  obtain ⟨p, e, R', s, m, args, below, meth, c, Q, A⟩ := X
  obtain ⟨rfl, hx, hb, hml, hown, hts, hK, hA, hlk, hE⟩ := O
  obtain ⟨d, rfl⟩ := d
  intro H locs ls hP hD hS hl
  exact lv_icmp_ne hx hb d ht (fun q => kt (ite_f E q) H locs ls hP hD hS hl) (fun q => kf (ite_t E q) H locs ls hP hD hS hl)
theorem g_icmp_lt {x y : Int32} {off : Int} {tgt : Nat} {β : Type} {a b : Option β} {o : β} (O : Ok l D cy X cc own nL R) (d : Dc cc pc (.if_icmp .lt off) 3 pc') (E : (if x < y then a else b) = some o) (ht : (pc : Int) + off = (tgt : Int)) (kt : a = some o → G l D X nL wf k n h tgt lv st) (kf : b = some o → G l D X nL wf k n h pc' lv st) : G l D X nL wf k n h pc lv (.int y :: .int x :: st) := by
  obtain ⟨p, e, R', s, m, args, below, meth, c, Q, A⟩ := X
  obtain ⟨rfl, hx, hb, hml, hown, hts, hK, hA, hlk, hE⟩ := O
  obtain ⟨d, rfl⟩ := d
  intro H locs ls hP hD hS hl
  exact lv_icmp_lt hx hb d ht (fun q => kt (ite_t E q) H locs ls hP hD hS hl) (fun q => kf (ite_f E q) H locs ls hP hD hS hl)
theorem g_icmp_ge {x y : Int32} {off : Int} {tgt : Nat} {β : Type} {a b : Option β} {o : β} (O : Ok l D cy X cc own nL R) (d : Dc cc pc (.if_icmp .ge off) 3 pc') (E : (if y ≤ x then a else b) = some o) (ht : (pc : Int) + off = (tgt : Int)) (kt : a = some o → G l D X nL wf k n h tgt lv st) (kf : b = some o → G l D X nL wf k n h pc' lv st) : G l D X nL wf k n h pc lv (.int y :: .int x :: st) := by
  obtain ⟨p, e, R', s, m, args, below, meth, c, Q, A⟩ := X
  obtain ⟨rfl, hx, hb, hml, hown, hts, hK, hA, hlk, hE⟩ := O
  obtain ⟨d, rfl⟩ := d
  intro H locs ls hP hD hS hl
  exact lv_icmp_ge hx hb d ht (fun q => kt (ite_t E q) H locs ls hP hD hS hl) (fun q => kf (ite_f E q) H locs ls hP hD hS hl)
theorem g_icmp_gt {x y : Int32} {off : Int} {tgt : Nat} {β : Type} {a b : Option β} {o : β} (O : Ok l D cy X cc own nL R) (d : Dc cc pc (.if_icmp .gt off) 3 pc') (E : (if y < x then a else b) = some o) (ht : (pc : Int) + off = (tgt : Int)) (kt : a = some o → G l D X nL wf k n h tgt lv st) (kf : b = some o → G l D X nL wf k n h pc' lv st) : G l D X nL wf k n h pc lv (.int y :: .int x :: st) := by
  obtain ⟨p, e, R', s, m, args, below, meth, c, Q, A⟩ := X
  obtain ⟨rfl, hx, hb, hml, hown, hts, hK, hA, hlk, hE⟩ := O
  obtain ⟨d, rfl⟩ := d
  intro H locs ls hP hD hS hl
  exact lv_icmp_gt hx hb d ht (fun q => kt (ite_t E q) H locs ls hP hD hS hl) (fun q => kf (ite_f E q) H locs ls hP hD hS hl)
theorem g_icmp_le {x y : Int32} {off : Int} {tgt : Nat} {β : Type} {a b : Option β} {o : β} (O : Ok l D cy X cc own nL R) (d : Dc cc pc (.if_icmp .le off) 3 pc') (E : (if x ≤ y then a else b) = some o) (ht : (pc : Int) + off = (tgt : Int)) (kt : a = some o → G l D X nL wf k n h tgt lv st) (kf : b = some o → G l D X nL wf k n h pc' lv st) : G l D X nL wf k n h pc lv (.int y :: .int x :: st) := by
  obtain ⟨p, e, R', s, m, args, below, meth, c, Q, A⟩ := X
  obtain ⟨rfl, hx, hb, hml, hown, hts, hK, hA, hlk, hE⟩ := O
  obtain ⟨d, rfl⟩ := d
  intro H locs ls hP hD hS hl
  exact lv_icmp_le hx hb d ht (fun q => kt (ite_t E q) H locs ls hP hD hS hl) (fun q => kf (ite_f E q) H locs ls hP hD hS hl)
theorem g_if_eq {x : Int32} {off : Int} {tgt : Nat} {β : Type} {a b : Option β} {o : β} (O : Ok l D cy X cc own nL R) (d : Dc cc pc (.ifCond .eq off) 3 pc') (E : (if x = 0 then a else b) = some o) (ht : (pc : Int) + off = (tgt : Int)) (kt : a = some o → G l D X nL wf k n h tgt lv st) (kf : b = some o → G l D X nL wf k n h pc' lv st) : G l D X nL wf k n h pc lv (.int x :: st) := by
  obtain ⟨p, e, R', s, m, args, below, meth, c, Q, A⟩ := X
  obtain ⟨rfl, hx, hb, hml, hown, hts, hK, hA, hlk, hE⟩ := O
  obtain ⟨d, rfl⟩ := d
  intro H locs ls hP hD hS hl
  exact lv_if_eq hx hb d ht (fun q => kt (ite_t E q) H locs ls hP hD hS hl) (fun q => kf (ite_f E q) H locs ls hP hD hS hl)
theorem g_if_ne {x : Int32} {off : Int} {tgt : Nat} {β : Type} {a b : Option β} {o : β} (O : Ok l D cy X cc own nL R) (d : Dc cc pc (.ifCond .ne off) 3 pc') (E : (if x = 0 then b else a) = some o) (ht : (pc : Int) + off = (tgt : Int)) (kt : a = some o → G l D X nL wf k n h tgt lv st) (kf : b = some o → G l D X nL wf k n h pc' lv st) : G l D X nL wf k n h pc lv (.int x :: st) := by
  obtain ⟨p, e, R', s, m, args, below, meth, c, Q, A⟩ := X
  obtain ⟨rfl, hx, hb, hml, hown, hts, hK, hA, hlk, hE⟩ := O
  obtain ⟨d, rfl⟩ := d
  intro H locs ls hP hD hS hl
  exact lv_if_ne hx hb d ht (fun q => kt (ite_f E q) H locs ls hP hD hS hl) (fun q => kf (ite_t E q) H locs ls hP hD hS hl)
theorem g_if_lt {x : Int32} {off : Int} {tgt : Nat} {β : Type} {a b : Option β} {o : β} (O : Ok l D cy X cc own nL R) (d : Dc cc pc (.ifCond .lt off) 3 pc') (E : (if x < 0 then a else b) = some o) (ht : (pc : Int) + off = (tgt : Int)) (kt : a = some o → G l D X nL wf k n h tgt lv st) (kf : b = some o → G l D X nL wf k n h pc' lv st) : G l D X nL wf k n h pc lv (.int x :: st) := by
  obtain ⟨p, e, R', s, m, args, below, meth, c, Q, A⟩ := X
  obtain ⟨rfl, hx, hb, hml, hown, hts, hK, hA, hlk, hE⟩ := O
  obtain ⟨d, rfl⟩ := d
  intro H locs ls hP hD hS hl
  exact lv_if_lt hx hb d ht (fun q => kt (ite_t E q) H locs ls hP hD hS hl) (fun q => kf (ite_f E q) H locs ls hP hD hS hl)
theorem g_if_ge {x : Int32} {off : Int} {tgt : Nat} {β : Type} {a b : Option β} {o : β} (O : Ok l D cy X cc own nL R) (d : Dc cc pc (.ifCond .ge off) 3 pc') (E : (if 0 ≤ x then a else b) = some o) (ht : (pc : Int) + off = (tgt : Int)) (kt : a = some o → G l D X nL wf k n h tgt lv st) (kf : b = some o → G l D X nL wf k n h pc' lv st) : G l D X nL wf k n h pc lv (.int x :: st) := by
  obtain ⟨p, e, R', s, m, args, below, meth, c, Q, A⟩ := X
  obtain ⟨rfl, hx, hb, hml, hown, hts, hK, hA, hlk, hE⟩ := O
  obtain ⟨d, rfl⟩ := d
  intro H locs ls hP hD hS hl
  exact lv_if_ge hx hb d ht (fun q => kt (ite_t E q) H locs ls hP hD hS hl) (fun q => kf (ite_f E q) H locs ls hP hD hS hl)
theorem g_if_gt {x : Int32} {off : Int} {tgt : Nat} {β : Type} {a b : Option β} {o : β} (O : Ok l D cy X cc own nL R) (d : Dc cc pc (.ifCond .gt off) 3 pc') (E : (if 0 < x then a else b) = some o) (ht : (pc : Int) + off = (tgt : Int)) (kt : a = some o → G l D X nL wf k n h tgt lv st) (kf : b = some o → G l D X nL wf k n h pc' lv st) : G l D X nL wf k n h pc lv (.int x :: st) := by
  obtain ⟨p, e, R', s, m, args, below, meth, c, Q, A⟩ := X
  obtain ⟨rfl, hx, hb, hml, hown, hts, hK, hA, hlk, hE⟩ := O
  obtain ⟨d, rfl⟩ := d
  intro H locs ls hP hD hS hl
  exact lv_if_gt hx hb d ht (fun q => kt (ite_t E q) H locs ls hP hD hS hl) (fun q => kf (ite_f E q) H locs ls hP hD hS hl)
theorem g_if_le {x : Int32} {off : Int} {tgt : Nat} {β : Type} {a b : Option β} {o : β} (O : Ok l D cy X cc own nL R) (d : Dc cc pc (.ifCond .le off) 3 pc') (E : (if x ≤ 0 then a else b) = some o) (ht : (pc : Int) + off = (tgt : Int)) (kt : a = some o → G l D X nL wf k n h tgt lv st) (kf : b = some o → G l D X nL wf k n h pc' lv st) : G l D X nL wf k n h pc lv (.int x :: st) := by
  obtain ⟨p, e, R', s, m, args, below, meth, c, Q, A⟩ := X
  obtain ⟨rfl, hx, hb, hml, hown, hts, hK, hA, hlk, hE⟩ := O
  obtain ⟨d, rfl⟩ := d
  intro H locs ls hP hD hS hl
  exact lv_if_le hx hb d ht (fun q => kt (ite_t E q) H locs ls hP hD hS hl) (fun q => kf (ite_f E q) H locs ls hP hD hS hl)
theorem g_iald {q0 a N : Nat} {f : Nat → Int32} {i : Int32} {β : Type} {b : Option β} {o : β} (O : Ok l D cy X cc own nL R) (d : Dc cc pc (.iaload) 1 pc') (ha : (wf h)[q0]? = some (a, .inl (cy 0, N, .inl f))) (E : ck i N b = some o) (kk : b = some o → G l D X nL wf k n h pc' lv (.int (f i.toNatClampNeg) :: st)) : G l D X nL wf k n h pc lv (.int i :: .ref a :: st) := by
  obtain ⟨p, e, R', s, m, args, below, meth, c, Q, A⟩ := X
  obtain ⟨rfl, hx, hb, hml, hown, hts, hK, hA, hlk, hE⟩ := O
  obtain ⟨d, rfl⟩ := d
  intro H locs ls hP hD hS hl
  exact va_iald hx hb hK hP q0 0 ha rfl (ck_of E).1 d (kk (ck_of E).2 H locs ls hP hD hS hl)
theorem g_zald {q0 a N : Nat} {f : Nat → Int32} {i : Int32} {β : Type} {b : Option β} {o : β} (O : Ok l D cy X cc own nL R) (d : Dc cc pc (.baload) 1 pc') (ha : (wf h)[q0]? = some (a, .inl (cy 3, N, .inl f))) (E : ck i N b = some o) (kk : b = some o → G l D X nL wf k n h pc' lv (.int (f i.toNatClampNeg) :: st)) : G l D X nL wf k n h pc lv (.int i :: .ref a :: st) := by
  obtain ⟨p, e, R', s, m, args, below, meth, c, Q, A⟩ := X
  obtain ⟨rfl, hx, hb, hml, hown, hts, hK, hA, hlk, hE⟩ := O
  obtain ⟨d, rfl⟩ := d
  intro H locs ls hP hD hS hl
  exact va_zald hx hb hK hP q0 3 ha rfl (ck_of E).1 d (kk (ck_of E).2 H locs ls hP hD hS hl)
theorem g_bald {q0 a N : Nat} {f : Nat → Int32} {i : Int32} {β : Type} {b : Option β} {o : β} (O : Ok l D cy X cc own nL R) (d : Dc cc pc (.baload) 1 pc') (ha : (wf h)[q0]? = some (a, .inl (cy 2, N, .inl f))) (E : ck i N b = some o) (kk : b = some o → G l D X nL wf k n h pc' lv (.int (f i.toNatClampNeg) :: st)) : G l D X nL wf k n h pc lv (.int i :: .ref a :: st) := by
  obtain ⟨p, e, R', s, m, args, below, meth, c, Q, A⟩ := X
  obtain ⟨rfl, hx, hb, hml, hown, hts, hK, hA, hlk, hE⟩ := O
  obtain ⟨d, rfl⟩ := d
  intro H locs ls hP hD hS hl
  exact va_bald hx hb hK hP q0 2 ha rfl (ck_of E).1 d (kk (ck_of E).2 H locs ls hP hD hS hl)
theorem g_cald {q0 a N : Nat} {f : Nat → Int32} {i : Int32} {β : Type} {b : Option β} {o : β} (O : Ok l D cy X cc own nL R) (d : Dc cc pc (.caload) 1 pc') (ha : (wf h)[q0]? = some (a, .inl (cy 4, N, .inl f))) (E : ck i N b = some o) (kk : b = some o → G l D X nL wf k n h pc' lv (.int (f i.toNatClampNeg) :: st)) : G l D X nL wf k n h pc lv (.int i :: .ref a :: st) := by
  obtain ⟨p, e, R', s, m, args, below, meth, c, Q, A⟩ := X
  obtain ⟨rfl, hx, hb, hml, hown, hts, hK, hA, hlk, hE⟩ := O
  obtain ⟨d, rfl⟩ := d
  intro H locs ls hP hD hS hl
  exact va_cald hx hb hK hP q0 4 ha rfl (ck_of E).1 d (kk (ck_of E).2 H locs ls hP hD hS hl)
theorem g_lald {q0 a N : Nat} {f : Nat → Int64} {i : Int32} {β : Type} {b : Option β} {o : β} (O : Ok l D cy X cc own nL R) (d : Dc cc pc (.laload) 1 pc') (ha : (wf h)[q0]? = some (a, .inl (cy 1, N, .inr (.inl f)))) (E : ck i N b = some o) (kk : b = some o → G l D X nL wf k n h pc' lv (.long (f i.toNatClampNeg) :: st)) : G l D X nL wf k n h pc lv (.int i :: .ref a :: st) := by
  obtain ⟨p, e, R', s, m, args, below, meth, c, Q, A⟩ := X
  obtain ⟨rfl, hx, hb, hml, hown, hts, hK, hA, hlk, hE⟩ := O
  obtain ⟨d, rfl⟩ := d
  intro H locs ls hP hD hS hl
  exact va_lald hx hb hK hP q0 1 ha rfl (ck_of E).1 d (kk (ck_of E).2 H locs ls hP hD hS hl)
theorem g_iast {q0 a N : Nat} {f : Nat → Int32} {h1 : S} {i : Int32} {x : Int32} {β : Type} {b : Option β} {o : β} (O : Ok l D cy X cc own nL R) (d : Dc cc pc (.iastore) 1 pc') (ha : (wf h)[q0]? = some (a, .inl (cy 0, N, .inl f))) (hw : (wf h).set q0 (a, .inl (cy 0, N, .inl (upd f i.toNatClampNeg x))) = wf h1) (E : ck i N b = some o) (kk : b = some o → G l D X nL wf k n h1 pc' lv st) : G l D X nL wf k n h pc lv (.int x :: .int i :: .ref a :: st) := by
  obtain ⟨p, e, R', s, m, args, below, meth, c, Q, A⟩ := X
  obtain ⟨rfl, hx, hb, hml, hown, hts, hK, hA, hlk, hE⟩ := O
  obtain ⟨d, rfl⟩ := d
  intro H locs ls hP hD hS hl
  refine va_iast hx hb hK hP hD hS q0 0 ha rfl (ck_of E).1 d (fun H1 locs1 hP1 hD1 hS1 => ?_)
  rw [hw] at hP1 hD1
  exact kk (ck_of E).2 H1 locs1 ls hP1 hD1 hS1 hl
theorem g_zast {q0 a N : Nat} {f : Nat → Int32} {h1 : S} {i : Int32} {x : Int32} {β : Type} {b : Option β} {o : β} (O : Ok l D cy X cc own nL R) (d : Dc cc pc (.bastore) 1 pc') (ha : (wf h)[q0]? = some (a, .inl (cy 3, N, .inl f))) (hw : (wf h).set q0 (a, .inl (cy 3, N, .inl (upd f i.toNatClampNeg (vp_nar .boolean x)))) = wf h1) (E : ck i N b = some o) (kk : b = some o → G l D X nL wf k n h1 pc' lv st) : G l D X nL wf k n h pc lv (.int x :: .int i :: .ref a :: st) := by
  obtain ⟨p, e, R', s, m, args, below, meth, c, Q, A⟩ := X
  obtain ⟨rfl, hx, hb, hml, hown, hts, hK, hA, hlk, hE⟩ := O
  obtain ⟨d, rfl⟩ := d
  intro H locs ls hP hD hS hl
  refine va_zast hx hb hK hP hD hS q0 3 ha rfl (ck_of E).1 d (fun H1 locs1 hP1 hD1 hS1 => ?_)
  rw [hw] at hP1 hD1
  exact kk (ck_of E).2 H1 locs1 ls hP1 hD1 hS1 hl
theorem g_bast {q0 a N : Nat} {f : Nat → Int32} {h1 : S} {i : Int32} {x : Int32} {β : Type} {b : Option β} {o : β} (O : Ok l D cy X cc own nL R) (d : Dc cc pc (.bastore) 1 pc') (ha : (wf h)[q0]? = some (a, .inl (cy 2, N, .inl f))) (hw : (wf h).set q0 (a, .inl (cy 2, N, .inl (upd f i.toNatClampNeg (vp_nar .byte x)))) = wf h1) (E : ck i N b = some o) (kk : b = some o → G l D X nL wf k n h1 pc' lv st) : G l D X nL wf k n h pc lv (.int x :: .int i :: .ref a :: st) := by
  obtain ⟨p, e, R', s, m, args, below, meth, c, Q, A⟩ := X
  obtain ⟨rfl, hx, hb, hml, hown, hts, hK, hA, hlk, hE⟩ := O
  obtain ⟨d, rfl⟩ := d
  intro H locs ls hP hD hS hl
  refine va_bast hx hb hK hP hD hS q0 2 ha rfl (ck_of E).1 d (fun H1 locs1 hP1 hD1 hS1 => ?_)
  rw [hw] at hP1 hD1
  exact kk (ck_of E).2 H1 locs1 ls hP1 hD1 hS1 hl
theorem g_cast {q0 a N : Nat} {f : Nat → Int32} {h1 : S} {i : Int32} {x : Int32} {β : Type} {b : Option β} {o : β} (O : Ok l D cy X cc own nL R) (d : Dc cc pc (.castore) 1 pc') (ha : (wf h)[q0]? = some (a, .inl (cy 4, N, .inl f))) (hw : (wf h).set q0 (a, .inl (cy 4, N, .inl (upd f i.toNatClampNeg (vp_nar .char x)))) = wf h1) (E : ck i N b = some o) (kk : b = some o → G l D X nL wf k n h1 pc' lv st) : G l D X nL wf k n h pc lv (.int x :: .int i :: .ref a :: st) := by
  obtain ⟨p, e, R', s, m, args, below, meth, c, Q, A⟩ := X
  obtain ⟨rfl, hx, hb, hml, hown, hts, hK, hA, hlk, hE⟩ := O
  obtain ⟨d, rfl⟩ := d
  intro H locs ls hP hD hS hl
  refine va_cast hx hb hK hP hD hS q0 4 ha rfl (ck_of E).1 d (fun H1 locs1 hP1 hD1 hS1 => ?_)
  rw [hw] at hP1 hD1
  exact kk (ck_of E).2 H1 locs1 ls hP1 hD1 hS1 hl
theorem g_last {q0 a N : Nat} {f : Nat → Int64} {h1 : S} {i : Int32} {x : Int64} {β : Type} {b : Option β} {o : β} (O : Ok l D cy X cc own nL R) (d : Dc cc pc (.lastore) 1 pc') (ha : (wf h)[q0]? = some (a, .inl (cy 1, N, .inr (.inl f)))) (hw : (wf h).set q0 (a, .inl (cy 1, N, .inr (.inl (vp_updL f i.toNatClampNeg x)))) = wf h1) (E : ck i N b = some o) (kk : b = some o → G l D X nL wf k n h1 pc' lv st) : G l D X nL wf k n h pc lv (.long x :: .int i :: .ref a :: st) := by
  obtain ⟨p, e, R', s, m, args, below, meth, c, Q, A⟩ := X
  obtain ⟨rfl, hx, hb, hml, hown, hts, hK, hA, hlk, hE⟩ := O
  obtain ⟨d, rfl⟩ := d
  intro H locs ls hP hD hS hl
  refine va_last hx hb hK hP hD hS q0 1 ha rfl (ck_of E).1 d (fun H1 locs1 hP1 hD1 hS1 => ?_)
  rw [hw] at hP1 hD1
  exact kk (ck_of E).2 H1 locs1 ls hP1 hD1 hS1 hl
theorem g_alen {q0 a t0 : Nat} {cA : ClassId} {z : vp_A} {ty : FieldType} {v : Int32} (O : Ok l D cy X cc own nL R) (d : Dc cc pc .arraylength 1 pc') (ha : (wf h)[q0]? = some (a, .inl (cA, z))) (ht : (TYS cy)[t0]? = some (cA, ty)) (hv : Int32.ofNat z.1 = v) (kk : G l D X nL wf k n h pc' lv (.int v :: st)) : G l D X nL wf k n h pc lv (.ref a :: st) := by
  obtain ⟨p, e, R', s, m, args, below, meth, c, Q, A⟩ := X
  obtain ⟨rfl, hx, hb, hml, hown, hts, hK, hA, hlk, hE⟩ := O
  obtain ⟨d, rfl⟩ := d
  intro H locs ls hP hD hS hl
  exact va_alen hx hb hK hP q0 t0 ha ht hv d (kk H locs ls hP hD hS hl)
theorem g_get {C : String} {T : u_T} {N ci q0 a ix j : Nat} {fs : List Value} {v : Value} (O : Ok l D cy X cc own nL R) (d : Dc cc pc (.getfield ix) 3 pc') (hin : ∀ w ∈ u_ws C T N, w ∈ TW) (hc : vwCl[ci]? = some (C, T, N)) (ha : (wf h)[q0]? = some (a, .inr (ci, fs))) (hj : j < N) (hv : fs[j]? = some v) (hTC : (T j).1 = C) (kw : Cond.fieldLink own ix C (T j).2.1 (T j).2.2.1 ∈ TW) (kk : G l D X nL wf k n h pc' lv (v :: st)) : G l D X nL wf k n h pc lv (.ref a :: st) := by
  obtain ⟨p, e, R', s, m, args, below, meth, c, Q, A⟩ := X
  obtain ⟨rfl, hx, hb, hml, hown, hts, hK, hA, hlk, hE⟩ := O
  obtain ⟨d, rfl⟩ := d
  intro H locs ls hP hD hS hl
  exact va_get hx hb hts hin hown hK hP q0 ha hc j hj (hts _ kw) (fun _ q => hTC ▸ q) hv d (kk H locs ls hP hD hS hl)
theorem g_getN {C : String} {host : String} {T : u_T} {N ci q0 a ix j : Nat} {fs : List Value} {v : Value} (O : Ok l D cy X cc own nL R) (d : Dc cc pc (.getfield ix) 3 pc') (hin : ∀ w ∈ u_ws C T N, w ∈ TW) (hc : vwCl[ci]? = some (C, T, N)) (ha : (wf h)[q0]? = some (a, .inr (ci, fs))) (hj : j < N) (hv : fs[j]? = some v) (hTC : (T j).1 = C) (kw : Cond.fieldLinkNest own ix C (T j).2.1 (T j).2.2.1 host ∈ NST) (kk : G l D X nL wf k n h pc' lv (v :: st)) : G l D X nL wf k n h pc lv (.ref a :: st) := by
  obtain ⟨p, e, R', s, m, args, below, meth, c, Q, A⟩ := X
  obtain ⟨rfl, hx, hb, hml, hown, hts, hK, hA, hlk, hE⟩ := O
  obtain ⟨d, rfl⟩ := d
  intro H locs ls hP hD hS hl
  exact va_getN hx hb hts hin hown hK hP q0 ha hc j hj (va_Nw.use rfl (hE.1 _ kw)) (fun _ q => hTC ▸ q) hv d (kk H locs ls hP hD hS hl)
theorem g_put {C : String} {T : u_T} {ty0 : Nat → FieldType} {N ci q0 a ix j : Nat} {fs : List Value} {v : Value} {ty : FieldType} {h1 : S} (O : Ok l D cy X cc own nL R) (d : Dc cc pc (.putfield ix) 3 pc') (hin : ∀ w ∈ u_ws C T N, w ∈ TW) (hty : ∀ k, k < N → parseFieldDescriptor (T k).2.2.1 = some (ty0 k)) (hnm : ∀ a, a < N → ∀ b, b < N → a ≠ b → (T a).2.1 ≠ (T b).2.1) (hc : vwCl[ci]? = some (C, T, N)) (ha : (wf h)[q0]? = some (a, .inr (ci, fs))) (hj : j < N) (hTC : (T j).1 = C) (hfin : (T j).2.2.2 = false) (hd : parseFieldDescriptor (T j).2.2.1 = some ty) (hn : narrow ty v = v) (hfit : fits ty v = true) (hlen : j < fs.length) (hw : (wf h).set q0 (a, .inr (ci, fs.set j v)) = wf h1) (kw : Cond.fieldLink own ix C (T j).2.1 (T j).2.2.1 ∈ TW) (kk : G l D X nL wf k n h1 pc' lv st) : G l D X nL wf k n h pc lv (v :: .ref a :: st) := by
  obtain ⟨p, e, R', s, m, args, below, meth, c, Q, A⟩ := X
  obtain ⟨rfl, hx, hb, hml, hown, hts, hK, hA, hlk, hE⟩ := O
  obtain ⟨d, rfl⟩ := d
  intro H locs ls hP hD hS hl
  refine va_put hx hb hts hin ty0 hty hnm hown hK hP hD hS q0 ha hc j hj (hts _ kw) (fun _ q => hTC ▸ q) hfin hd hn hfit hlen d (fun H1 locs1 hP1 hD1 hS1 => ?_)
  rw [hw] at hP1 hD1
  exact kk H1 locs1 ls hP1 hD1 hS1 hl
theorem g_putN {C : String} {host : String} {T : u_T} {ty0 : Nat → FieldType} {N ci q0 a ix j : Nat} {fs : List Value} {v : Value} {ty : FieldType} {h1 : S} (O : Ok l D cy X cc own nL R) (d : Dc cc pc (.putfield ix) 3 pc') (hin : ∀ w ∈ u_ws C T N, w ∈ TW) (hty : ∀ k, k < N → parseFieldDescriptor (T k).2.2.1 = some (ty0 k)) (hnm : ∀ a, a < N → ∀ b, b < N → a ≠ b → (T a).2.1 ≠ (T b).2.1) (hc : vwCl[ci]? = some (C, T, N)) (ha : (wf h)[q0]? = some (a, .inr (ci, fs))) (hj : j < N) (hTC : (T j).1 = C) (hfin : (T j).2.2.2 = false) (hd : parseFieldDescriptor (T j).2.2.1 = some ty) (hn : narrow ty v = v) (hfit : fits ty v = true) (hlen : j < fs.length) (hw : (wf h).set q0 (a, .inr (ci, fs.set j v)) = wf h1) (kw : Cond.fieldLinkNest own ix C (T j).2.1 (T j).2.2.1 host ∈ NST) (kk : G l D X nL wf k n h1 pc' lv st) : G l D X nL wf k n h pc lv (v :: .ref a :: st) := by
  obtain ⟨p, e, R', s, m, args, below, meth, c, Q, A⟩ := X
  obtain ⟨rfl, hx, hb, hml, hown, hts, hK, hA, hlk, hE⟩ := O
  obtain ⟨d, rfl⟩ := d
  intro H locs ls hP hD hS hl
  refine va_putN hx hb hts hin ty0 hty hnm hown hK hP hD hS q0 ha hc j hj (va_Nw.use rfl (hE.1 _ kw)) (fun _ q => hTC ▸ q) hfin hd hn hfit hlen d (fun H1 locs1 hP1 hD1 hS1 => ?_)
  rw [hw] at hP1 hD1
  exact kk H1 locs1 ls hP1 hD1 hS1 hl
theorem g_sub (lv' : List (Nat × Value)) (ks : List Nat) (hp : lv_pick lv ks = lv') (kk : G l D X nL wf k n h pc lv' st) : G l D X nL wf k n h pc lv st := by
  obtain ⟨p, e, R', s, m, args, below, meth, c, Q, A⟩ := X
  intro H locs ls hP hD hS hl
  exact kk H locs ls hP hD hS (lv_sub hl ks hp)
theorem g_nm {β : Type} {x : Int32} {kp : Int32 → Option β} {o : β} (E : nm x kp = some o) (kk : ∀ y : Int32, kp y = some o → G l D X nL wf k n h pc lv (.int y :: st)) : G l D X nL wf k n h pc lv (.int x :: st) := kk x E
theorem g_nmL {β : Type} {x : Int64} {kp : Int64 → Option β} {o : β} (E : nm x kp = some o) (kk : ∀ y : Int64, kp y = some o → G l D X nL wf k n h pc lv (.long y :: st)) : G l D X nL wf k n h pc lv (.long x :: st) := kk x E
theorem g_nmh {β : Type} {h0 : S} {kp : S → Option β} {o : β} (E : nm h0 kp = some o) (kk : ∀ y : S, kp y = some o → G l D X nL wf k n y pc lv st) : G l D X nL wf k n h0 pc lv st := kk h0 E
theorem neI {x v : Int32} {z : Int} (h : ¬ x = v) (hz : v.toInt = z) : x.toInt ≠ z := fun q => h (Int32.toInt_inj.mp (q.trans hz.symm))
theorem g_tab {dflt lo hi : Int} {offs : Array Int} {len : Nat} {x v : Int32} {off : Int} {tgt : Nat} {β : Type} {a b : Option β} {o : β} (O : Ok l D cy X cc own nL R) (d : Dc cc pc (.tableswitch dflt lo hi offs) len pc') (E : (if x = v then a else b) = some o) (hv : (¬ v.toInt < lo) ∧ (¬ hi < v.toInt) ∧ offs[(v.toInt - lo).toNat]? = some off ∧ (pc : Int) + off = (tgt : Int)) (kt : a = some o → G l D X nL wf k n h tgt lv st) (kf : ¬ x = v → b = some o → G l D X nL wf k n h pc lv (.int x :: st)) : G l D X nL wf k n h pc lv (.int x :: st) := by
  by_cases q : x = v
  · subst q
    obtain ⟨p, e, R', s, m, args, below, meth, c, Q, A⟩ := X
    obtain ⟨rfl, hx, hb, hml, hown, hts, hK, hA, hlk, hE⟩ := O
    intro H locs ls hP hD hS hl
    exact lv_tableIn hx hb d.1 hv.1 hv.2.1 hv.2.2.1 hv.2.2.2 (kt (ite_t E rfl) H locs ls hP hD hS hl)
  · exact kf q (ite_f E q)
theorem g_tabD {dflt lo hi : Int} {offs : Array Int} {len : Nat} {x : Int32} {tgt : Nat} (O : Ok l D cy X cc own nL R) (d : Dc cc pc (.tableswitch dflt lo hi offs) len pc') (hx9 : x.toInt < lo ∨ hi < x.toInt) (ht : (pc : Int) + dflt = (tgt : Int)) (kk : G l D X nL wf k n h tgt lv st) : G l D X nL wf k n h pc lv (.int x :: st) := by
  obtain ⟨p, e, R', s, m, args, below, meth, c, Q, A⟩ := X
  obtain ⟨rfl, hx, hb, hml, hown, hts, hK, hA, hlk, hE⟩ := O
  intro H locs ls hP hD hS hl
  exact lv_tableOut hx hb d.1 hx9 ht (kk H locs ls hP hD hS hl)
theorem g_lk {dflt : Int} {ps : Array (Int × Int)} {len : Nat} {x v : Int32} {off : Int} {tgt : Nat} {β : Type} {a b : Option β} {o : β} (O : Ok l D cy X cc own nL R) (d : Dc cc pc (.lookupswitch dflt ps) len pc') (E : (if x = v then a else b) = some o) (hp : (ps.toList.zip (ps.toList.drop 1)).all (fun (a, next) => a.1 < next.1) = true) (hv : Op.lookupswitch.offset ps.toList dflt v.toInt = off) (ht : (pc : Int) + off = (tgt : Int)) (kt : a = some o → G l D X nL wf k n h tgt lv st) (kf : ¬ x = v → b = some o → G l D X nL wf k n h pc lv (.int x :: st)) : G l D X nL wf k n h pc lv (.int x :: st) := by
  by_cases q : x = v
  · subst q
    obtain ⟨p, e, R', s, m, args, below, meth, c, Q, A⟩ := X
    obtain ⟨rfl, hx, hb, hml, hown, hts, hK, hA, hlk, hE⟩ := O
    intro H locs ls hP hD hS hl
    exact lv_lookup hx hb d.1 hp hv ht (kt (ite_t E rfl) H locs ls hP hD hS hl)
  · exact kf q (ite_f E q)
theorem g_lkD {dflt : Int} {ps : Array (Int × Int)} {len : Nat} {x : Int32} {tgt : Nat} (O : Ok l D cy X cc own nL R) (d : Dc cc pc (.lookupswitch dflt ps) len pc') (hp : (ps.toList.zip (ps.toList.drop 1)).all (fun (a, next) => a.1 < next.1) = true) (hv : Op.lookupswitch.offset ps.toList dflt x.toInt = dflt) (ht : (pc : Int) + dflt = (tgt : Int)) (kk : G l D X nL wf k n h tgt lv st) : G l D X nL wf k n h pc lv (.int x :: st) := by
  obtain ⟨p, e, R', s, m, args, below, meth, c, Q, A⟩ := X
  obtain ⟨rfl, hx, hb, hml, hown, hts, hK, hA, hlk, hE⟩ := O
  intro H locs ls hP hD hS hl
  exact lv_lookup hx hb d.1 hp hv ht (kk H locs ls hP hD hS hl)
def SA (X : Cx) (ty : FieldType) (t N : Nat) (f : Nat → Value) : Prop := match X with
  | (_, _, _, s, _, _, _, _, _, _, A) => va_T ty t N f A s s.heap
theorem g_gsINP {ix : Nat} (O : Ok l D cy X cc own nL R) (d : Dc cc pc (.getstatic ix) 3 pc') (kw : Cond.fieldLink own ix "Comparatory$Proof" "INPUTS" "[J" ∈ TW) (kk : ∀ t : Nat, SA X .long t 6 (fun j => .long (fINP j)) → G l D X nL wf k n h pc' lv (.ref t :: st)) : G l D X nL wf k n h pc lv st := by
  obtain ⟨p, e, R', s, m, args, below, meth, c, Q, A⟩ := X
  obtain ⟨rfl, hx, hb, hml, hown, hts, hK, hA, hlk, hE⟩ := O
  obtain ⟨d, rfl⟩ := d
  intro H locs ls hP hD hS hl
  obtain ⟨t, hZ, hT⟩ := hE.2.1
  exact va_gets hx hb hZ hS hown (hts _ kw) (fun _ q => q) d (kk t hT H locs ls hP hD hS hl)
theorem g_gsFAC {ix : Nat} (O : Ok l D cy X cc own nL R) (d : Dc cc pc (.getstatic ix) 3 pc') (kw : Cond.fieldLink own ix "Comparatory$Rows" "FACTORIALS" "[I" ∈ TW) (kk : ∀ t : Nat, SA X .int t 7 (fun j => .int (fFAC j)) → G l D X nL wf k n h pc' lv (.ref t :: st)) : G l D X nL wf k n h pc lv st := by
  obtain ⟨p, e, R', s, m, args, below, meth, c, Q, A⟩ := X
  obtain ⟨rfl, hx, hb, hml, hown, hts, hK, hA, hlk, hE⟩ := O
  obtain ⟨d, rfl⟩ := d
  intro H locs ls hP hD hS hl
  obtain ⟨t, hZ, hT⟩ := hE.2.2.1
  exact va_gets hx hb hZ hS hown (hts _ kw) (fun _ q => q) d (kk t hT H locs ls hP hD hS hl)
theorem g_gsBEG {ix : Nat} (O : Ok l D cy X cc own nL R) (d : Dc cc pc (.getstatic ix) 3 pc') (kw : Cond.fieldLink own ix "Comparatory$Steps" "BEGINNINGS" "[I" ∈ TW) (kk : ∀ t : Nat, SA X .int t 7 (fun j => .int (fBEG j)) → G l D X nL wf k n h pc' lv (.ref t :: st)) : G l D X nL wf k n h pc lv st := by
  obtain ⟨p, e, R', s, m, args, below, meth, c, Q, A⟩ := X
  obtain ⟨rfl, hx, hb, hml, hown, hts, hK, hA, hlk, hE⟩ := O
  obtain ⟨d, rfl⟩ := d
  intro H locs ls hP hD hS hl
  obtain ⟨t, hZ, hT⟩ := hE.2.2.2.1
  exact va_gets hx hb hZ hS hown (hts _ kw) (fun _ q => q) d (kk t hT H locs ls hP hD hS hl)
theorem g_stl {t N : Nat} {f : Nat → Int64} {i : Int32} {β : Type} {b : Option β} {o : β} (O : Ok l D cy X cc own nL R) (d : Dc cc pc .laload 1 pc') (hT : SA X .long t N (fun j => .long (f j))) (E : ck i N b = some o) (kk : b = some o → G l D X nL wf k n h pc' lv (.long (f i.toNatClampNeg) :: st)) : G l D X nL wf k n h pc lv (.int i :: .ref t :: st) := by
  obtain ⟨p, e, R', s, m, args, below, meth, c, Q, A⟩ := X
  obtain ⟨rfl, hx, hb, hml, hown, hts, hK, hA, hlk, hE⟩ := O
  obtain ⟨d, rfl⟩ := d
  intro H locs ls hP hD hS hl
  exact va_tl hx hb hT hS (ck_of E).1 rfl d (kk (ck_of E).2 H locs ls hP hD hS hl)
theorem g_sti {t N : Nat} {f : Nat → Int32} {i : Int32} {β : Type} {b : Option β} {o : β} (O : Ok l D cy X cc own nL R) (d : Dc cc pc .iaload 1 pc') (hT : SA X .int t N (fun j => .int (f j))) (E : ck i N b = some o) (kk : b = some o → G l D X nL wf k n h pc' lv (.int (f i.toNatClampNeg) :: st)) : G l D X nL wf k n h pc lv (.int i :: .ref t :: st) := by
  obtain ⟨p, e, R', s, m, args, below, meth, c, Q, A⟩ := X
  obtain ⟨rfl, hx, hb, hml, hown, hts, hK, hA, hlk, hE⟩ := O
  obtain ⟨d, rfl⟩ := d
  intro H locs ls hP hD hS hl
  exact va_ti hx hb hT hS (ck_of E).1 rfl d (kk (ck_of E).2 H locs ls hP hD hS hl)
end GR
