/-! ROWS of bits through the reference -/
def SpI (SP : Int32) (sp : Nat) : Prop := ∀ i, i < 24 → (nI i = SP ↔ i = sp)
theorem SpI.n {sp : Nat} (h : sp < 2 ^ 31) : SpI (nI sp) sp := fun i hi => neqI (by omega) h
theorem SpI.m : SpI (-1) 99 := by
  intro i hi
  constructor
  · intro h
    have := congrArg Int32.toInt h
    rw [nI_toInt (by omega)] at this
    have e : (-1 : Int32).toInt = -1 := by decide
    omega
  · intro h; omega
theorem xor0 (x : Int32) : x ^^^ 0 = x := by
  apply Int32.toBitVec_inj.mp
  rw [Int32.toBitVec_xor]
  simp
theorem netB_s {f o : Nat → Nat} {sp md i : Nat} {v : Nat → Bool} : netB f o sp md (i + 1) v = if i = sp then badB md (f i) (o i) (netB f o sp md i v) else cmpB (f i) (o i) (netB f o sp md i v) := rfl
theorem cmp_same {a b : Nat} {V : Nat → Bool} (h : ¬ (V a = true ∧ V b = false)) : ∀ x, cmpB a b V x = V x := by
  intro x
  unfold cmpB
  by_cases e : x = a
  · subst e; rw [if_pos rfl]; revert h; cases V x <;> cases V b <;> decide
  · rw [if_neg e]
    by_cases e2 : x = b
    · subst e2; rw [if_pos rfl]; revert h; cases V a <;> cases V x <;> decide
    · rw [if_neg e2]
theorem cmp_swap {a b : Nat} {V : Nat → Bool} (hab : a ≠ b) (h1 : V a = true) (h2 : V b = false) : cmpB a b V a = V b ∧ cmpB a b V b = V a ∧ ∀ x, x ≠ a → x ≠ b → cmpB a b V x = V x := by
  refine ⟨?_, ?_, fun x e1 e2 => ?_⟩
  · unfold cmpB; rw [if_pos rfl, h1, h2]; rfl
  · unfold cmpB; rw [if_neg (Ne.symm hab), if_pos rfl, h1, h2]; rfl
  · unfold cmpB; rw [if_neg e1, if_neg e2]
theorem bad1_swap {a b : Nat} {V : Nat → Bool} (hab : a ≠ b) : badB 1 a b V a = V b ∧ badB 1 a b V b = V a ∧ ∀ x, x ≠ a → x ≠ b → badB 1 a b V x = V x := by
  refine ⟨?_, ?_, fun x e1 e2 => ?_⟩
  · unfold badB; rw [if_pos rfl, if_pos rfl]
  · unfold badB; rw [if_pos rfl, if_neg (Ne.symm hab), if_pos rfl]
  · unfold badB; rw [if_pos rfl, if_neg e1, if_neg e2]
theorem bad1_same {a b : Nat} {V : Nat → Bool} (h : V a = V b) : ∀ x, badB 1 a b V x = V x := by
  intro x
  unfold badB
  rw [if_pos rfl]
  by_cases e : x = a
  · subst e; rw [if_pos rfl, h]
  · rw [if_neg e]
    by_cases e2 : x = b
    · subst e2; rw [if_pos rfl, h]
    · rw [if_neg e2]
theorem bad2_same {a b : Nat} {V : Nat → Bool} (h : ¬ (V a = false ∧ V b = true)) : ∀ x, badB 2 a b V x = V x := by
  intro x
  unfold badB
  rw [if_neg (by decide), if_pos rfl]
  by_cases e : x = a
  · subst e; rw [if_pos rfl]; revert h; cases V x <;> cases V b <;> decide
  · rw [if_neg e]
    by_cases e2 : x = b
    · subst e2; rw [if_pos rfl]; revert h; cases V a <;> cases V x <;> decide
    · rw [if_neg e2]
theorem bad2_swap {a b : Nat} {V : Nat → Bool} (hab : a ≠ b) (h1 : V a = false) (h2 : V b = true) : badB 2 a b V a = V b ∧ badB 2 a b V b = V a ∧ ∀ x, x ≠ a → x ≠ b → badB 2 a b V x = V x := by
  refine ⟨?_, ?_, fun x e1 e2 => ?_⟩
  · unfold badB; rw [if_neg (by decide), if_pos rfl, if_pos rfl, h1, h2]; rfl
  · unfold badB; rw [if_neg (by decide), if_pos rfl, if_neg (Ne.symm hab), if_pos rfl, h1, h2]; rfl
  · unfold badB; rw [if_neg (by decide), if_pos rfl, if_neg e1, if_neg e2]
theorem bad0_same {md a b : Nat} {V : Nat → Bool} (h1 : ¬ md = 1) (h2 : ¬ md = 2) : ∀ x, badB md a b V x = V x := by
  intro x
  unfold badB
  rw [if_neg h1, if_neg h2]
theorem r_through {n k j q sp md : Nat} {f o : Nat → Nat} {m : Hp} {SP : Int32} (hG : Good n k f o) (hM : NetM n k f o m) (hj : j ≤ k) (hq : q < 2 ^ n) (hsp : SpI SP sp) (hmd : md ≤ 2) : Ev (f_X11_through m (nI q) (nI j) SP (nI md)) (fun y => RQ n (netB f o sp md j (bR q)) y) := by
  have hn := hG.2.1
  have hk24 := hG.2.2.1
  have hle : 2 ^ n ≤ 2 ^ 6 := Nat.pow_le_pow_right (by omega) hn
  unfold f_X11_through
  refine Ev_jn1 (fun y => RQ n (netB f o sp md j (bR q)) y) (fun y hy => Ev_so hy) (fun kk hk => ?_)
  refine Ev_fx2 (fun i a1 a2 => a2 = nI i ∧ RQ n (netB f o sp md i (bR q)) a1) j ?_ ?_ (FU_lt (by omega)) ⟨rfl, q, rfl, hq, fun x hx => rfl⟩
  · rintro self i a1 a2 hi ⟨rfl, p, rfl, hp, hv⟩ hself
    obtain ⟨g1, g2, g3⟩ := hG.2.2.2 i (by omega)
    unfold L_X11_through_6
    refine Ev_f (nle_n hi (by omega)) (Ev_ck rfl (by omega) (by omega) (Ev_nm (Ev_ck rfl (by omega) (by omega) (Ev_nm ?_))))
    rw [clN (by omega), (hM.2.2.1 i (by omega)).1, (hM.2.2.1 i (by omega)).2, bit_n (by omega) (by omega), bit_n (by omega) (by omega), hv _ g1, hv _ g2]
    have hW := netB_s (f := f) (o := o) (sp := sp) (md := md) (i := i) (v := bR q)
    generalize hVe : netB f o sp md i (bR q) = V at hW hv
    generalize netB f o sp md (i + 1) (bR q) = W at hW hself
    have h01 : (nI 0 = nI 1) = False := eq_false (by decide)
    refine Ev_jn1 (fun z => (z = 0 ∧ ∀ x, x < n → W x = V x) ∨ (z = 1 ∧ (V (f i) ≠ V (o i) → W (f i) = V (o i) ∧ W (o i) = V (f i) ∧ ∀ x, x ≠ f i → x ≠ o i → W x = V x) ∧ (V (f i) = V (o i) → ∀ x, x < n → W x = V x))) (fun z hz => ?_) (fun k85 h85 => ?_)
    · have hsame : (∀ x, x < n → W x = V x) → Ev (self (nI p) (nI i + 1)) (fun y => RQ n (netB f o sp md j (bR q)) y) := fun hh => hself _ _ ⟨nI_add i 1, p, rfl, hp, fun x hx => by rw [hv x hx, hh x hx]⟩
      refine Ev_jn0 (∀ x, x < n → W x = V x) (fun hh => Ev_nm (by rw [xor0]; exact hsame hh)) (fun k123 h123 => ?_)
      rcases hz with ⟨rfl, hh⟩ | ⟨rfl, h1, h2⟩
      · exact Ev_t rfl (h123 hh)
      · refine Ev_f (by decide) ?_
        by_cases e : V (f i) = V (o i)
        · exact Ev_t (by rw [e]) (h123 (h2 e))
        · refine Ev_f ?_ (Ev_ck rfl (by omega) (by omega) (Ev_ck rfl (by omega) (by omega) (Ev_nm ?_)))
          · intro z
            apply e
            revert z
            cases V (f i) <;> cases V (o i) <;> decide
          · have e1 : ishl 1 (nI (f i)) = nI (2 ^ f i) := by
              have := ishl_n (a := 1) (k := f i) (by omega)
              rw [Nat.one_mul] at this; exact this
            have e2 : ishl 1 (nI (o i)) = nI (2 ^ o i) := by
              have := ishl_n (a := 1) (k := o i) (by omega)
              rw [Nat.one_mul] at this; exact this
            rw [e1, e2, nI_or, nI_xor]
            obtain ⟨w1, w2, w3⟩ := h1 e
            exact hself _ _ ⟨nI_add i 1, (RQ.step hp hv g1 g2 g3 W (fun z => absurd z e) (fun _ => Or.inr ⟨w1, w2, w3⟩)).1 ⟨e, w1, w2, w3⟩⟩
    · by_cases hs : i = sp
      · rw [if_pos hs] at hW
        subst hW
        refine Ev_t ((hsp i (by omega)).mpr hs) (Ev_jn0 (md = 1 ∨ (md = 2 ∧ V (f i) = false ∧ V (o i) = true)) (fun hq => h85 _ (Or.inr ⟨rfl, fun he => ?_, fun he => ?_⟩)) (fun k80 h80 => Ev_i (fun e1 => h80 (Or.inl ((neqI (b := 1) (by omega) (by omega)).mp e1))) (fun e1 => ?_)))
        · rcases hq with rfl | ⟨rfl, q1, q2⟩
          · exact bad1_swap g3
          · exact bad2_swap g3 q1 q2
        · rcases hq with rfl | ⟨rfl, q1, q2⟩
          · exact fun x _ => bad1_same he x
          · rw [q1, q2] at he; cases he
        · have d1 : ¬ md = 1 := fun e => e1 (by rw [e]; rfl)
          refine Ev_jn0 (¬ (md = 2 ∧ V (f i) = false ∧ V (o i) = true)) (fun hq => h85 _ (Or.inl ⟨rfl, fun x _ => ?_⟩)) (fun k84 h84 => Ev_i (fun e2 => ?_) (fun e2 => h84 (fun z => e2 (by rw [z.1]; rfl))))
          · by_cases d2 : md = 2
            · subst d2; exact bad2_same (fun z => hq ⟨rfl, z⟩) x
            · exact bad0_same d1 d2 x
          · have d2 : md = 2 := (neqI (b := 2) (by omega) (by omega)).mp e2
            refine Ev_i (fun e3 => h84 (fun z => ?_)) (fun e3 => h80 (Or.inr ⟨d2, ?_⟩))
            · rw [z.2.1, z.2.2] at e3; exact absurd e3 (by decide)
            · revert e3
              cases V (f i) <;> cases V (o i) <;> decide
      · rw [if_neg hs] at hW
        subst hW
        refine Ev_f (fun z => hs ((hsp i (by omega)).mp z)) (Ev_i (fun e3 => h85 _ (Or.inl ⟨rfl, fun x _ => cmp_same (fun z => ?_) x⟩)) (fun e3 => ?_))
        · rw [z.1, z.2] at e3; exact absurd e3 (by decide)
        · have q : V (f i) = true ∧ V (o i) = false := by
            revert e3
            cases V (f i) <;> cases V (o i) <;> decide
          exact h85 _ (Or.inr ⟨rfl, fun _ => cmp_swap g3 q.1 q.2, fun z => by rw [q.1, q.2] at z; cases z⟩)
  · rintro self a1 a2 ⟨rfl, hZ⟩
    unfold L_X11_through_6
    exact Ev_t (le_n (by omega) (by omega)) (hk _ hZ)
