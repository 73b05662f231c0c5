/-! P43: the tape, typed beside the class -/
theorem bN_or (x y : Int64) : bN (x ||| y) = bN x ||| bN y := by unfold bN; simp
theorem chr_l : ((List.range 128).all fun q => (List.range 8).all fun j => decide (bN (lshl (i2l (nI q)) (nI (8 * j))) = q * 2 ^ (8 * j))) = true := by decide +kernel
theorem chr_sh {q j : Nat} (hq : q < 128) (hj : j < 8) : bN (lshl (i2l (nI q)) (nI (8 * j))) = q * 2 ^ (8 * j) := of_decide_eq_true (List.all_eq_true.mp (List.all_eq_true.mp chr_l q (List.mem_range.mpr hq)) j (List.mem_range.mpr hj))
def TyI (j : Nat) (z : Int64) : Prop := bN z < 2 ^ (8 * j) ∧ ∀ i, i < j → chB (chN z i) = true
theorem TyI.z : TyI 0 0 := ⟨by decide, fun i hi => absurd hi (by omega)⟩
theorem TyI.put {j q : Nat} {z : Int64} (h : TyI j z) (hj : j < 8) (hq : q < 128) (hc : chB q = true) : TyI (j + 1) (z ||| lshl (i2l (nI q)) (nI (8 * j))) := by
  have e : bN (z ||| lshl (i2l (nI q)) (nI (8 * j))) = 2 ^ (8 * j) * q + bN z := by
    rw [bN_or, chr_sh hq hj, Nat.two_pow_add_eq_or_of_lt h.1, Nat.mul_comm, Nat.or_comm]
  have h1 := h.1
  have hp : 2 ^ (8 * (j + 1)) = 2 ^ (8 * j) * 256 := by rw [show 8 * (j + 1) = 8 * j + 8 by omega, Nat.pow_add]
  refine ⟨?_, fun i hi => ?_⟩
  · rw [e, hp]
    have : 2 ^ (8 * j) * q + bN z < 2 ^ (8 * j) * q + 2 ^ (8 * j) := Nat.add_lt_add_left h1 _
    have h2 : 2 ^ (8 * j) * q + 2 ^ (8 * j) = 2 ^ (8 * j) * (q + 1) := by rw [Nat.mul_add, Nat.mul_one]
    exact Nat.lt_of_lt_of_le this (by rw [h2]; exact Nat.mul_le_mul_left _ (by omega))
  · by_cases q2 : i = j
    · have : chN (z ||| lshl (i2l (nI q)) (nI (8 * j))) i = q := by
        unfold chN
        rw [e, q2, Nat.mul_add_div (Nat.two_pow_pos _), Nat.div_eq_of_lt h1, Nat.add_zero, Nat.mod_eq_of_lt (by omega)]
      rw [this]; exact hc
    · have : chN (z ||| lshl (i2l (nI q)) (nI (8 * j))) i = chN z i := by
        unfold chN
        obtain ⟨d, hd⟩ : ∃ d, j = i + 1 + d := ⟨j - i - 1, by omega⟩
        have hpp : 2 ^ (8 * j) = 2 ^ (8 * i) * (256 * 2 ^ (8 * d)) := by
          rw [hd, show 8 * (i + 1 + d) = 8 * i + (8 + 8 * d) by omega, Nat.pow_add, Nat.pow_add]
        rw [e, hpp, Nat.mul_assoc, Nat.mul_add_div (Nat.two_pow_pos _), Nat.mul_assoc, Nat.mul_add_mod]
      rw [this]; exact h.2 i (by omega)
def TyP (T : Nat) (r0 r2 r3 : Row) (y : Int32 × Hp × Row × Row) : Prop := y.1 = 1 ∧ LawI T y.2.1 r0 y.2.2.1 r2 r3 y.2.2.2
set_option maxHeartbeats 4000000 in
theorem r_types {T : Nat} {c : Hp} {x1 : Int32} {r0 r1 r2 r3 r5 : Row} (hL : LawI T c r0 r1 r2 r3 r5) : Ev (f_L_types x1 c r1 r5) (TyP T r0 r2 r3) := by
  obtain ⟨n, k, f, o, hL⟩ := hL
  have hL0 := hL
  obtain ⟨hG, h5, hC, hc, hq, hTp, hB, hS, hSt, hA⟩ := hL
  obtain ⟨t, ch, ht, t11, tq2, hch⟩ := hTp
  have hn2 := hG.1
  unfold f_L_types
  refine Ev_bd _ (r_low (n := 8) (by omega) (by omega)) (fun y ⟨m0, hm0, ey⟩ => ?_)
  subst ey
  rw [n1, nI_add]
  generalize hm : 1 + m0 = m
  have hm1 : 1 ≤ m := by omega
  have hm8 : m ≤ 8 := by omega
  refine Ev_nm (Ev_jn1 (fun z => TyI m z) (fun z hz => ?_) (fun k144 h144 => ?_))
  · rw [cl2, tq2, nI_add, show (41 : Int32) = nI 41 from rfl]
    have hkk := k_type (z := z) (c := c) ht hm1 hm8 ⟨t11, fun i hi => by rw [if_pos (by omega)]; exact (hch i (by omega)).2.1⟩ hz.2
    refine Ev_c2 ?_
    by_cases h : t + m ≤ 40
    · refine Ev_f (nle_n (by omega) (by omega)) (Ev_jn2 (fun s1 s5 => (∀ i, i < t + m → s1 i = nI (if i < t then ch i else chN z (i - t))) ∧ s5 2 = nI (t + m) ∧ ∀ x, x ≠ 2 → s5 x = r5 x) (fun s1 s5 ⟨p1, p2, p3⟩ => ?_) (fun k208 h208 => ?_))
      · refine Ev_bd _ hkk (fun y ⟨y1, _⟩ => ?_)
        obtain ⟨e1, e2, e3⟩ := y1 h
        have hq2 : QrN n k s5 := ⟨(p3 0 (by omega)).trans hq.1, (p3 1 (by omega)).trans hq.2⟩
        have hT2 : TapL y.2 s1 s5 := ⟨t + m, fun i => if i < t then ch i else chN z (i - t), h, e3.1, p2, fun i hi => ⟨by
          dsimp only
          split
          · rename_i q; exact (hch i q).1
          · exact chB_ok (hz.2 (i - t) (by omega)), e3.2 i hi, p1 i hi⟩⟩
        have hN : LawS T n k f o y.2 r0 s1 r2 r3 s5 := ⟨hG, h5, e2.nC hC (by decide) (by decide) (by decide), hc, hq2, hT2, hB.sm e2 (by decide) (by decide) (by decide) (by decide), hS.keep (e2 20 (by decide)).1 (e2 22 (by decide)).1, hSt.keep (by rw [(e2 29 (by decide)).1]), hA.sm e2 (by decide)⟩
        exact Ev_jn1 (fun w => w = nI (t + m)) (fun w hw => Ev_t (e1.trans hw.symm) (Ev_ckz (Or.inr rfl) (Ev_so ⟨rfl, n, k, f, o, hN⟩))) (fun k232 h232 => Ev_f (by decide) (Ev_c2 (h232 _ p2)))
      · refine Ev_fx3 (fun j a s1 s5 => a = nI j ∧ (∀ i, i < t + j → s1 i = nI (if i < t then ch i else chN z (i - t))) ∧ s5 2 = nI (t + j) ∧ ∀ x, x ≠ 2 → s5 x = r5 x) m ?_ ?_ (FU_lt (by omega)) ⟨rfl, fun i hi => by rw [if_pos (by omega)]; exact (hch i (by omega)).2.2, tq2, fun _ _ => rfl⟩
        · rintro self j a s1 s5 hj ⟨rfl, p1, p2, p3⟩ hself
          unfold L_L_types_165
          rw [cl2, p2, clN (by omega), ch_s (by omega), n1, nI_add]
          refine Ev_f (nle_n hj (by omega)) (Ev_f (by decide) (Ev_c2 (Ev_ck rfl (by omega) (by omega) (Ev_nm (Ev_c2 (Ev_c2 (Ev_nm (hself _ _ _ ⟨nI_add j 1, fun i hi => ?_, upd_s _ _ _, fun x hx => ?_⟩))))))))
          · by_cases q : i = t + j
            · rw [q, upd_s, if_neg (by omega), show t + j - t = j by omega]
            · rw [upd_n _ _ q]; exact p1 i (by omega)
          · rw [upd_n _ _ hx]; exact p3 x hx
        · rintro self a s1 s5 ⟨rfl, p⟩
          unfold L_L_types_165
          exact Ev_t (Int32.le_refl _) (h208 _ _ p)
    · refine Ev_t (le_n (by omega) (by omega)) (Ev_jn2 (fun s1 s5 => s1 = r1 ∧ s5 = r5) (fun s1 s5 ⟨p1, p2⟩ => ?_) (fun k208 h208 => ?_))
      · subst p1 p2
        refine Ev_bd _ hkk (fun y ⟨_, y2⟩ => ?_)
        obtain ⟨e1, e2⟩ := y2 (by omega)
        refine Ev_jn1 (fun z => z = (-1003 : Int32)) (fun z hz => Ev_t (e1.trans hz.symm) (Ev_ckz (Or.inr rfl) (Ev_so ⟨rfl, n, k, f, o, ?_⟩))) (fun k232 h232 => Ev_t rfl (h232 _ rfl))
        dsimp only
        rw [e2]; exact hL0
      · obtain ⟨N, hN⟩ : ∃ N, FU = N + 1 := ⟨99999, rfl⟩
        rw [hN]
        show Ev (L_L_types_165 _ _ _ _ _ _ _ _) _
        unfold L_L_types_165
        exact Ev_i (fun _ => h208 _ _ ⟨rfl, rfl⟩) (fun _ => Ev_t rfl (h208 _ _ ⟨rfl, rfl⟩))
  · refine Ev_fx2 (fun j z a => a = nI j ∧ TyI j z) m ?_ ?_ (FU_lt (by omega)) ⟨rfl, TyI.z⟩
    · rintro self j z a hj ⟨rfl, hz⟩ hself
      have hself2 : ∀ q, q < 128 → chB q = true → Ev (nm (z ||| lshl (i2l (nI q)) ((8 : Int32) * nI j)) (fun y5_21 => self y5_21 (nI j + (1 : Int32)))) (TyP T r0 r2 r3) := fun q hq hc => by
        rw [n8, nmul]
        exact Ev_nm (hself _ _ ⟨nI_add j 1, hz.put (by omega) hq hc⟩)
      unfold L_L_types_16
      rw [cl2, cl0, tq2, hq.1, nI_add, n4, irmN (by omega) (by omega) (by omega)]
      refine Ev_f (nle_n hj (by omega)) (Ev_c2 (Ev_nm (Ev_bd _ (r_low (n := 17) (by omega) (by omega)) (fun r18 _ => ?_))))
      refine Ev_jn1 (fun w => ∃ q, q < 128 ∧ chB q = true ∧ w = nI q) (fun w ⟨q, h1, h2, h3⟩ => by rw [h3]; exact hself2 q h1 h2) (fun k122 h122 => ?_)
      refine Ev_i (fun _ => h122 _ ⟨47, by omega, rfl, rfl⟩) (fun _ => Ev_i (fun _ => h122 _ ⟨58, by omega, rfl, rfl⟩) (fun _ => Ev_i (fun _ => ?_) (fun _ => ?_)))
      · exact Ev_bd _ (r_low (n := 3) (by omega) (by omega)) (fun r27 _ => Ev_i (fun _ => h122 _ ⟨32, by omega, rfl, rfl⟩) (fun _ => h122 _ ⟨47, by omega, rfl, rfl⟩))
      · refine Ev_c0 (Ev_bd _ (r_low (n := 9) (by omega) (by omega)) (fun r22 _ => Ev_jn1 (fun w => w = nI 0 ∨ w = nI 1) (fun w hw => ?_) (fun k117 h117 => Ev_i (fun _ => h117 _ (Or.inr rfl)) (fun _ => h117 _ (Or.inl rfl)))))
        obtain ⟨u, hu, ew⟩ : ∃ u, u < 2 ∧ w = nI u := by
          rcases hw with rfl | rfl
          · exact ⟨0, by omega, rfl⟩
          · exact ⟨1, by omega, rfl⟩
        rw [ew, nI_add]
        refine Ev_bd _ (r_low (by omega) (by omega)) (fun r25 ⟨d, hd, ed⟩ => ?_)
        rw [ed, show (48 : Int32) = nI 48 from rfl, nI_add]
        refine h122 _ ⟨48 + d, by omega, ?_, rfl⟩
        unfold chB
        simp
        omega
    · rintro self z a ⟨rfl, hz⟩
      unfold L_L_types_16
      exact Ev_t (Int32.le_refl _) (h144 _ hz)
