/-! CASE tests: the reference chooses -/
def FlP (n k : Nat) (f o : Nat → Nat) (l : List Nat) : Prop := ∀ j, j < 3 * k → l.any (fun r => tR n k f o r j) = orB (fun r => tR n k f o r j) (2 ^ n)
def SdP (n k : Nat) (f o : Nat → Nat) (v : Nat) : Prop := 1 ≤ v ∧ v ≤ 5 ∧ (v < 5 → ∃ l : List Nat, l.length = v ∧ (∀ r, r ∈ l → r < 2 ^ n) ∧ FlP n k f o l)
def B3 (n k : Nat) (f o : Nat → Nat) (a b c v : Nat) : Prop := (FlP n k f o [a, b, c] → v ≤ 3) ∧ ∀ d, c < d → d < 2 ^ n → FlP n k f o [a, b, c, d] → v ≤ 4
def B2 (n k : Nat) (f o : Nat → Nat) (a b v : Nat) : Prop := (FlP n k f o [a, b] → v ≤ 2) ∧ ∀ c, b < c → c < 2 ^ n → B3 n k f o a b c v
def B1 (n k : Nat) (f o : Nat → Nat) (a v : Nat) : Prop := (FlP n k f o [a] → v ≤ 1) ∧ ∀ b, a < b → b < 2 ^ n → B2 n k f o a b v
theorem B3.mono {n k a b c v w : Nat} {f o : Nat → Nat} (h : B3 n k f o a b c v) (hw : w ≤ v) : B3 n k f o a b c w := ⟨fun x => Nat.le_trans hw (h.1 x), fun d h1 h2 x => Nat.le_trans hw (h.2 d h1 h2 x)⟩
theorem B2.mono {n k a b v w : Nat} {f o : Nat → Nat} (h : B2 n k f o a b v) (hw : w ≤ v) : B2 n k f o a b w := ⟨fun x => Nat.le_trans hw (h.1 x), fun c h1 h2 => (h.2 c h1 h2).mono hw⟩
theorem B1.mono {n k a v w : Nat} {f o : Nat → Nat} (h : B1 n k f o a v) (hw : w ≤ v) : B1 n k f o a w := ⟨fun x => Nat.le_trans hw (h.1 x), fun b h1 h2 => (h.2 b h1 h2).mono hw⟩
theorem B3.le {n k a b c v : Nat} {f o : Nat → Nat} (h : v ≤ 3) : B3 n k f o a b c v := ⟨fun _ => h, fun _ _ _ _ => by omega⟩
theorem B2.le {n k a b v : Nat} {f o : Nat → Nat} (h : v ≤ 2) : B2 n k f o a b v := ⟨fun _ => h, fun _ _ _ => B3.le (by omega)⟩
theorem SdP.set {n k s : Nat} {f o : Nat → Nat} {l : List Nat} (h1 : 1 ≤ s) (h4 : s ≤ 4) (hl : l.length = s) (hr : ∀ r, r ∈ l → r < 2 ^ n) (hF : FlP n k f o l) : SdP n k f o s := ⟨h1, by omega, fun _ => ⟨l, hl, hr, hF⟩⟩
/-- rows' bits, and all of them -/
def RowsM (n k : Nat) (f o : Nat → Nat) (h : Hp) (A2 A4 : Int64) : Prop := (∀ r, r < 2 ^ n → Rp (3 * k) (tR n k f o r) (h.2 15 r) (h.2 16 r)) ∧ Rp (3 * k) (fun j => orB (fun r => tR n k f o r j) (2 ^ n)) A2 A4
def LpR (n k : Nat) (f o : Nat → Nat) (l : List Nat) (u w : Int64) : Prop := Rp (3 * k) (fun j => l.any (fun r => tR n k f o r j)) u w
theorem LpR.one {n k a : Nat} {f o : Nat → Nat} {h : Hp} {A2 A4 : Int64} (hR : RowsM n k f o h A2 A4) (ha : a < 2 ^ n) : LpR n k f o [a] (h.2 15 a) (h.2 16 a) := (hR.1 a ha).congr (fun j => by simp)
theorem LpR.add {n k a : Nat} {f o : Nat → Nat} {l : List Nat} {h : Hp} {A2 A4 u w : Int64} (hR : RowsM n k f o h A2 A4) (hl : LpR n k f o l u w) (ha : a < 2 ^ n) : LpR n k f o (l ++ [a]) (u ||| h.2 15 a) (w ||| h.2 16 a) := (Rp.or hl (hR.1 a ha)).congr (fun j => by simp [List.any_append])
theorem LpR.fl {n k : Nat} {f o : Nat → Nat} {l : List Nat} {h : Hp} {A2 A4 u w : Int64} (hk : k ≤ 24) (hR : RowsM n k f o h A2 A4) (hl : LpR n k f o l u w) : (lg_cmp u A2 = 0 ∧ lg_cmp w A4 = 0) ↔ FlP n k f o l := by
  rw [lg_eq, lg_eq]
  exact Rp.eq (by omega) hl hR.2
section
variable {n k a b c v : Nat} {f o : Nat → Nat} {h : Hp} {A2 A4 u w : Int64} {P : Int32 → Prop} {K : Int32 → Option Int32}
theorem M_ch4 (hn : n ≤ 6) (hk24 : k ≤ 24) (hR : RowsM n k f o h A2 A4) (ha : a < 2 ^ n) (hb : b < 2 ^ n) (hc : c < 2 ^ n) (hL : LpR n k f o [a, b, c] u w) (hS : SdP n k f o v) (y9 y11 : Int64) (hK : ∀ v', v' ≤ v → SdP n k f o v' → (∀ d, c < d → d < 2 ^ n → FlP n k f o [a, b, c, d] → v' ≤ 4) → Ev (K (nI v')) P) : Ev (jn1 (fun k248 => fx2 (L_X11_chosen_191 h (nI (2 ^ n)) A2 A4 (nI a) (nI b) y9 y11 (nI c) u w k248) FU (nI v) (nI (c + 1))) K) P := by
  have hle : 2 ^ n ≤ 2 ^ 6 := Nat.pow_le_pow_right (by omega) hn
  refine Ev_jn1 (fun y => ∃ v', y = nI v' ∧ v' ≤ v ∧ SdP n k f o v' ∧ ∀ d, c < d → d < 2 ^ n → FlP n k f o [a, b, c, d] → v' ≤ 4) (fun y ⟨v', e, y1, y2, y3⟩ => by rw [e]; exact hK v' y1 y2 y3) (fun kk hk => ?_)
  refine Ev_fx2 (fun i a1 a2 => a2 = nI (c + 1 + i) ∧ ∃ v', a1 = nI v' ∧ v' ≤ v ∧ SdP n k f o v' ∧ ∀ d, c < d → d < c + 1 + i → FlP n k f o [a, b, c, d] → v' ≤ 4) (2 ^ n - 1 - c) ?_ ?_ (FU_lt (by omega)) ⟨rfl, v, rfl, Nat.le_refl _, hS, fun d h1 h2 => absurd h1 (by omega)⟩
  · rintro self i a1 a2 hi ⟨rfl, v', rfl, y1, y2, y3⟩ hself
    generalize hd : c + 1 + i = d at hself y3 ⊢
    have hnext : c + 1 + (i + 1) = d + 1 := by omega
    rw [hnext] at hself
    have hdn : d < 2 ^ n := by omega
    have hv5 := y2.2.1
    unfold L_X11_chosen_191
    refine Ev_f (nle_n hdn (by omega)) (Ev_i (fun e => hk _ ⟨v', rfl, y1, y2, fun _ _ _ _ => ?_⟩) (fun e => Ev_ck rfl (by omega) (by omega) ?_))
    · exact (nI_leI (b := 4) (by omega) (by omega)).mp e
    · have e5 : ¬ v' ≤ 4 := fun z => e ((nI_leI (b := 4) (by omega) (by omega)).mpr z)
      rw [clN (by omega)]
      have hfl := LpR.fl hk24 hR (LpR.add hR hL hdn)
      have hno : ¬ FlP n k f o [a, b, c, d] → Ev (self (nI v') (nI d + 1)) P := fun hno => hself _ _ ⟨nI_add d 1, v', rfl, y1, y2, fun d' z1 z2 z3 => by
        by_cases e6 : d' = d
        · rw [e6] at z3; exact absurd z3 hno
        · exact y3 d' z1 (by omega) z3⟩
      refine Ev_i (fun e6 => Ev_ck rfl (by omega) (by omega) (Ev_i (fun e7 => ?_) (fun e7 => hno (fun z => e7 (hfl.mpr z).2)))) (fun e6 => hno (fun z => e6 (hfl.mpr z).1))
      have hF : FlP n k f o [a, b, c, d] := hfl.mp ⟨e6, e7⟩
      refine hself _ _ ⟨nI_add d 1, 4, rfl, by omega, SdP.set (by omega) (by omega) rfl (fun r hr => ?_) hF, fun _ _ _ _ => Nat.le_refl _⟩
      rcases List.mem_cons.mp hr with z | hr
      · omega
      rcases List.mem_cons.mp hr with z | hr
      · omega
      rcases List.mem_cons.mp hr with z | hr
      · omega
      · have := List.mem_singleton.mp hr
        omega
  · rintro self a1 a2 ⟨rfl, v', rfl, y1, y2, y3⟩
    unfold L_X11_chosen_191
    exact Ev_t (le_n (by omega) (by omega)) (hk _ ⟨v', rfl, y1, y2, fun d z1 z2 z3 => y3 d z1 (by omega) z3⟩)
theorem M_ch3 (hn : n ≤ 6) (hk24 : k ≤ 24) (hR : RowsM n k f o h A2 A4) (ha : a < 2 ^ n) (hb : b < 2 ^ n) (hL : LpR n k f o [a, b] u w) (hS : SdP n k f o v) (hK : ∀ v', v' ≤ v → SdP n k f o v' → (∀ c, b < c → c < 2 ^ n → B3 n k f o a b c v') → Ev (K (nI v')) P) : Ev (jn1 (fun k254 => fx2 (L_X11_chosen_126 h (nI (2 ^ n)) A2 A4 (nI a) (nI b) u w k254) FU (nI v) (nI (b + 1))) K) P := by
  have hle : 2 ^ n ≤ 2 ^ 6 := Nat.pow_le_pow_right (by omega) hn
  refine Ev_jn1 (fun y => ∃ v', y = nI v' ∧ v' ≤ v ∧ SdP n k f o v' ∧ ∀ c, b < c → c < 2 ^ n → B3 n k f o a b c v') (fun y ⟨v', e, y1, y2, y3⟩ => by rw [e]; exact hK v' y1 y2 y3) (fun kk hk => ?_)
  refine Ev_fx2 (fun i a1 a2 => a2 = nI (b + 1 + i) ∧ ∃ v', a1 = nI v' ∧ v' ≤ v ∧ SdP n k f o v' ∧ ∀ c, b < c → c < b + 1 + i → B3 n k f o a b c v') (2 ^ n - 1 - b) ?_ ?_ (FU_lt (by omega)) ⟨rfl, v, rfl, Nat.le_refl _, hS, fun d h1 h2 => absurd h1 (by omega)⟩
  · rintro self i a1 a2 hi ⟨rfl, v', rfl, y1, y2, y3⟩ hself
    generalize hd : b + 1 + i = c at hself y3 ⊢
    have hnext : b + 1 + (i + 1) = c + 1 := by omega
    rw [hnext] at hself
    have hcn : c < 2 ^ n := by omega
    have hv5 := y2.2.1
    unfold L_X11_chosen_126
    refine Ev_f (nle_n hcn (by omega)) (Ev_i (fun e => hk _ ⟨v', rfl, y1, y2, fun _ _ _ => B3.le ?_⟩) (fun e => Ev_ck rfl (by omega) (by omega) ?_))
    · exact (nI_leI (b := 3) (by omega) (by omega)).mp e
    · have e5 : ¬ v' ≤ 3 := fun z => e ((nI_leI (b := 3) (by omega) (by omega)).mpr z)
      rw [clN (by omega)]
      have hL2 := LpR.add hR hL hcn
      have hfl := LpR.fl hk24 hR hL2
      refine Ev_nm (Ev_ck rfl (by omega) (by omega) (Ev_nm (Ev_jn1 (fun y => ∃ v2, y = nI v2 ∧ v2 ≤ v' ∧ SdP n k f o v2 ∧ (FlP n k f o [a, b, c] → v2 ≤ 3)) (fun y ⟨v2, e6, z1, z2, z3⟩ => ?_) (fun k183 hk1 => ?_))))
      · subst e6
        rw [n1, nI_add]
        refine Ev_nm (M_ch4 hn hk24 hR ha hb hcn hL2 z2 u w (fun v3 x1 x2 x3 => hself _ _ ⟨rfl, v3, rfl, by omega, x2, fun c' t1 t2 => ?_⟩))
        by_cases e7 : c' = c
        · rw [e7]; exact ⟨fun z => Nat.le_trans x1 (z3 z), x3⟩
        · exact (y3 c' t1 (by omega)).mono (by omega)
      · refine Ev_jn0 (¬ FlP n k f o [a, b, c]) (fun hno => hk1 _ ⟨v', rfl, Nat.le_refl _, y2, fun z => absurd z hno⟩) (fun k181 hk2 => ?_)
        refine Ev_i (fun e6 => Ev_i (fun e7 => ?_) (fun e7 => hk2 (fun z => e7 (hfl.mpr z).2))) (fun e6 => hk2 (fun z => e6 (hfl.mpr z).1))
        have hF : FlP n k f o [a, b, c] := hfl.mp ⟨e6, e7⟩
        refine hk1 _ ⟨3, rfl, by omega, SdP.set (by omega) (by omega) rfl (fun r hr => ?_) hF, fun _ => Nat.le_refl _⟩
        rcases List.mem_cons.mp hr with z | hr
        · omega
        rcases List.mem_cons.mp hr with z | hr
        · omega
        · have := List.mem_singleton.mp hr
          omega
  · rintro self a1 a2 ⟨rfl, v', rfl, y1, y2, y3⟩
    unfold L_X11_chosen_126
    exact Ev_t (le_n (by omega) (by omega)) (hk _ ⟨v', rfl, y1, y2, fun c z1 z2 => y3 c z1 (by omega)⟩)
theorem M_ch2 (hn : n ≤ 6) (hk24 : k ≤ 24) (hR : RowsM n k f o h A2 A4) (ha : a < 2 ^ n) (hS : SdP n k f o v) (hK : ∀ v', v' ≤ v → SdP n k f o v' → (∀ b, a < b → b < 2 ^ n → B2 n k f o a b v') → Ev (K (nI v')) P) : Ev (jn1 (fun k260 => fx2 (L_X11_chosen_51 h (nI (2 ^ n)) A2 A4 (nI a) k260) FU (nI v) (nI (a + 1))) K) P := by
  have hle : 2 ^ n ≤ 2 ^ 6 := Nat.pow_le_pow_right (by omega) hn
  refine Ev_jn1 (fun y => ∃ v', y = nI v' ∧ v' ≤ v ∧ SdP n k f o v' ∧ ∀ b, a < b → b < 2 ^ n → B2 n k f o a b v') (fun y ⟨v', e, y1, y2, y3⟩ => by rw [e]; exact hK v' y1 y2 y3) (fun kk hk => ?_)
  refine Ev_fx2 (fun i a1 a2 => a2 = nI (a + 1 + i) ∧ ∃ v', a1 = nI v' ∧ v' ≤ v ∧ SdP n k f o v' ∧ ∀ b, a < b → b < a + 1 + i → B2 n k f o a b v') (2 ^ n - 1 - a) ?_ ?_ (FU_lt (by omega)) ⟨rfl, v, rfl, Nat.le_refl _, hS, fun d h1 h2 => absurd h1 (by omega)⟩
  · rintro self i a1 a2 hi ⟨rfl, v', rfl, y1, y2, y3⟩ hself
    generalize hd : a + 1 + i = b at hself y3 ⊢
    have hnext : a + 1 + (i + 1) = b + 1 := by omega
    rw [hnext] at hself
    have hbn : b < 2 ^ n := by omega
    have hv5 := y2.2.1
    unfold L_X11_chosen_51
    refine Ev_f (nle_n hbn (by omega)) (Ev_i (fun e => hk _ ⟨v', rfl, y1, y2, fun _ _ _ => B2.le ?_⟩) (fun e => Ev_ck rfl (by omega) (by omega) (Ev_ck rfl (by omega) (by omega) ?_)))
    · exact (nI_leI (b := 2) (by omega) (by omega)).mp e
    · have e5 : ¬ v' ≤ 2 := fun z => e ((nI_leI (b := 2) (by omega) (by omega)).mpr z)
      rw [clN (show a < 2 ^ 31 by omega), clN (show b < 2 ^ 31 by omega)]
      have hL2 := LpR.add hR (LpR.one hR ha) hbn
      have hfl := LpR.fl hk24 hR hL2
      refine Ev_nm (Ev_ck rfl (by omega) (by omega) (Ev_ck rfl (by omega) (by omega) (Ev_nm (Ev_jn1 (fun y => ∃ v2, y = nI v2 ∧ v2 ≤ v' ∧ SdP n k f o v2 ∧ (FlP n k f o [a, b] → v2 ≤ 2)) (fun y ⟨v2, e6, z1, z2, z3⟩ => ?_) (fun k118 hk1 => ?_)))))
      · subst e6
        rw [n1, nI_add]
        refine Ev_nm (M_ch3 hn hk24 hR ha hbn hL2 z2 (fun v3 x1 x2 x3 => hself _ _ ⟨rfl, v3, rfl, by omega, x2, fun c' t1 t2 => ?_⟩))
        by_cases e7 : c' = b
        · rw [e7]; exact ⟨fun z => Nat.le_trans x1 (z3 z), x3⟩
        · exact (y3 c' t1 (by omega)).mono (by omega)
      · refine Ev_jn0 (¬ FlP n k f o [a, b]) (fun hno => hk1 _ ⟨v', rfl, Nat.le_refl _, y2, fun z => absurd z hno⟩) (fun k116 hk2 => ?_)
        refine Ev_i (fun e6 => Ev_i (fun e7 => ?_) (fun e7 => hk2 (fun z => e7 (hfl.mpr z).2))) (fun e6 => hk2 (fun z => e6 (hfl.mpr z).1))
        have hF : FlP n k f o [a, b] := hfl.mp ⟨e6, e7⟩
        refine hk1 _ ⟨2, rfl, by omega, SdP.set (by omega) (by omega) rfl (fun r hr => ?_) hF, fun _ => Nat.le_refl _⟩
        rcases List.mem_cons.mp hr with z | hr
        · omega
        · have := List.mem_singleton.mp hr
          omega
  · rintro self a1 a2 ⟨rfl, v', rfl, y1, y2, y3⟩
    unfold L_X11_chosen_51
    exact Ev_t (le_n (by omega) (by omega)) (hk _ ⟨v', rfl, y1, y2, fun c z1 z2 => y3 c z1 (by omega)⟩)
end
theorem M_chosen {n k : Nat} {f o : Nat → Nat} {h : Hp} {A2 A4 : Int64} (hn : n ≤ 6) (hk24 : k ≤ 24) (hR : RowsM n k f o h A2 A4) : Ev (f_X11_chosen h (nI (2 ^ n)) A2 A4) (fun y => ∃ v, SdP n k f o v ∧ (∀ a, a < 2 ^ n → B1 n k f o a v) ∧ y = if v = 5 then -1 else nI v) := by
  have hle : 2 ^ n ≤ 2 ^ 6 := Nat.pow_le_pow_right (by omega) hn
  unfold f_X11_chosen
  refine Ev_jn1 (fun y => ∃ v, y = nI v ∧ SdP n k f o v ∧ ∀ a, a < 2 ^ n → B1 n k f o a v) (fun y ⟨v, e, y1, y2⟩ => ?_) (fun kk hk => ?_)
  · subst e
    have hv5 := y1.2.1
    have e5 : (nI v = 5) = (v = 5) := nI_iff (b := 5) (by omega) (by omega)
    simp only [e5]
    exact Ev_i (fun e => Ev_so ⟨v, y1, y2, by rw [if_pos e]⟩) (fun e => Ev_so ⟨v, y1, y2, by rw [if_neg e]⟩)
  · refine Ev_fx2 (fun a a1 a2 => a2 = nI a ∧ ∃ v', a1 = nI v' ∧ SdP n k f o v' ∧ ∀ b, b < a → B1 n k f o b v') (2 ^ n) ?_ ?_ (FU_lt (by omega)) ⟨rfl, 5, rfl, ⟨by omega, by omega, fun z => absurd z (by omega)⟩, fun b hb => absurd hb (by omega)⟩
    · rintro self a a1 a2 ha ⟨rfl, v', rfl, y2, y3⟩ hself
      have hv5 := y2.2.1
      have hfl := LpR.fl hk24 hR (LpR.one hR ha)
      unfold L_X11_chosen_6
      rw [clN (by omega)]
      refine Ev_f (nle_n ha (by omega)) (Ev_ck rfl (by omega) (by omega) (Ev_jn1 (fun y => ∃ v2, y = nI v2 ∧ v2 ≤ v' ∧ SdP n k f o v2 ∧ (FlP n k f o [a] → v2 ≤ 1)) (fun y ⟨v2, e6, z1, z2, z3⟩ => ?_) (fun k43 hk1 => ?_)))
      · subst e6
        rw [n1, nI_add]
        refine Ev_nm (M_ch2 hn hk24 hR ha z2 (fun v3 x1 x2 x3 => hself _ _ ⟨rfl, v3, rfl, x2, fun c' t2 => ?_⟩))
        by_cases e7 : c' = a
        · rw [e7]; exact ⟨fun z => Nat.le_trans x1 (z3 z), x3⟩
        · exact (y3 c' (by omega)).mono (by omega)
      · refine Ev_jn0 (¬ FlP n k f o [a]) (fun hno => hk1 _ ⟨v', rfl, Nat.le_refl _, y2, fun z => absurd z hno⟩) (fun k41 hk2 => ?_)
        refine Ev_i (fun e6 => Ev_ck rfl (by omega) (by omega) (Ev_i (fun e7 => ?_) (fun e7 => hk2 (fun z => e7 (hfl.mpr z).2)))) (fun e6 => hk2 (fun z => e6 (hfl.mpr z).1))
        have hF : FlP n k f o [a] := hfl.mp ⟨e6, e7⟩
        refine hk1 _ ⟨1, rfl, y2.1, SdP.set (by omega) (by omega) rfl (fun r hr => ?_) hF, fun _ => Nat.le_refl _⟩
        have := List.mem_singleton.mp hr
        omega
    · rintro self a1 a2 ⟨rfl, v', rfl, y2, y3⟩
      unfold L_X11_chosen_6
      exact Ev_t (Int32.le_refl _) (hk _ ⟨v', rfl, y2, y3⟩)
