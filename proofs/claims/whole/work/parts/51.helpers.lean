/-! THE LAW'S HELPERS -/
def fh_network (s : LWS) (p0 : Int32) : Option (Int32 × LWS) :=
  hcatch (f_X10_network s.1 p0) (fun E c => (if E = "java/lang/IllegalArgumentException" then some (1, setC s c) else none)) (fun a => some (0, setO (setC s a.2) 0 (i2l a.1)))
def fh_add (s : LWS) (p0 : Int32) (p1 : Int32) : Option (Int32 × LWS) :=
  hcatch (f_X10_add s.1 p0 p1) (fun E c => (if E = "java/lang/IndexOutOfBoundsException" then some (1, setC s c) else (if E = "java/lang/IllegalArgumentException" then some (2, setC s c) else (if E = "java/lang/IllegalStateException" then some (3, setC s c) else none)))) (fun a => some (0, setO (setC s a.2) 0 (i2l a.1)))
def fh_take (s : LWS)  : Option (Int32 × LWS) :=
  hcatch (f_X10_take s.1 ) (fun E c => (if E = "java/lang/IllegalStateException" then some (1, setC s c) else none)) (fun a => some (0, setO (setC s a.2) 0 (i2l a.1)))
def fh_make (s : LWS) (p0 : Int32) : Option (Int32 × LWS) :=
  hcatch (f_X10_make s.1 p0) (fun E c => (if E = "java/lang/IllegalArgumentException" then some (1, setC s c) else (if E = "java/lang/IllegalStateException" then some (2, setC s c) else none))) (fun a => some (0, setO (setC s a.2) 0 (i2l a.1)))
def fh_told (s : LWS) (p0 : Int32) : Option (Int32 × LWS) :=
  hcatch (f_X10_told s.1 p0) (fun E c => (if E = "java/lang/IllegalArgumentException" then some (1, setC s c) else none)) (fun a => some (0, setO (setC s a.2) 0 (i2l a.1)))
def fh_comparator (s : LWS) (p0 : Int32) (p1 : Int32) : Option (Int32 × LWS) :=
  hcatch (f_X10_comparator s.1 p0 p1) (fun E c => (if E = "java/lang/IndexOutOfBoundsException" then some (1, setC s c) else (if E = "java/lang/IllegalArgumentException" then some (2, setC s c) else none))) (fun a => some (0, setO (setC s a.2) 0 (i2l a.1)))
def fh_textAt (s : LWS) (p0 : Int32) : Option (Int32 × LWS) :=
  hcatch (f_X10_textAt s.1 p0) (fun E c => (if E = "java/lang/IndexOutOfBoundsException" then some (1, setC s c) else none)) (fun a => some (0, setO (setC s a.2) 0 (i2l a.1)))
def fh_type (s : LWS) (p0 : Int64) (p1 : Int32) : Option (Int32 × LWS) :=
  hcatch (f_X10_type s.1 p0 p1) (fun E c => (if E = "java/lang/IllegalArgumentException" then some (1, setC s c) else (if E = "java/lang/IllegalStateException" then some (2, setC s c) else none))) (fun a => some (0, setO (setC s a.2) 0 (i2l a.1)))
def fh_build (s : LWS)  : Option (Int32 × LWS) :=
  hcatch (f_X10_build s.1 ) (fun E c => (if E = "java/lang/IllegalArgumentException" then some (1, setC s c) else (if E = "java/lang/IllegalStateException" then some (2, setC s c) else none))) (fun a => some (0, setO (setC s a.2) 0 (i2l a.1)))
def fh_run (s : LWS) (p0 : Int32) : Option (Int32 × LWS) :=
  hcatch (f_X10_run s.1 p0) (fun E c => (if E = "java/lang/IllegalArgumentException" then some (1, setC s c) else none)) (fun a => some (0, setO (setC s a.2) 0 (i2l a.1)))
def fh_wrong (s : LWS) (p0 : Int32) : Option (Int32 × LWS) :=
  hcatch (f_X10_wrong s.1 p0) (fun E c => (if E = "java/lang/IndexOutOfBoundsException" then some (1, setC s c) else none)) (fun a => some (0, setO (setC s a.2) 0 (i2l a.1)))
def fh_finishes (s : LWS) (p0 : Int32) : Option (Int32 × LWS) :=
  hcatch (f_X10_finishes s.1 p0) (fun E c => (if E = "java/lang/IllegalArgumentException" then some (1, setC s c) else none)) (fun a => some (0, setO (setC s a.2) 0 (i2l a.1)))
def fh_merges (s : LWS) (p0 : Int32) : Option (Int32 × LWS) :=
  hcatch (f_X10_merges s.1 p0) (fun E c => (if E = "java/lang/IndexOutOfBoundsException" then some (1, setC s c) else none)) (fun a => some (0, setO (setC s a.2) 0 ((if a.1 = 0 then 0 else 1))))
def fh_chooses (s : LWS) (p0 : Int32) : Option (Int32 × LWS) :=
  hcatch (f_X10_chooses s.1 p0) (fun E c => (if E = "java/lang/IllegalArgumentException" then some (1, setC s c) else none)) (fun a => some (0, setO (setC s a.2) 0 ((if a.1 = 0 then 0 else 1))))
def fh_setting (s : LWS) (p0 : Int32) : Option (Int32 × LWS) :=
  hcatch (f_X10_setting s.1 p0) (fun E c => (if E = "java/lang/IllegalArgumentException" then some (1, setC s c) else none)) (fun a => some (0, setO (setC s a.2) 0 (i2l a.1)))
def fh_token (s : LWS) (p0 : Int32) : Option (Int32 × LWS) :=
  hcatch (f_X10_token s.1 p0) (fun E c => (if E = "java/lang/IndexOutOfBoundsException" then some (1, setC s c) else (if E = "java/lang/IllegalStateException" then some (2, setC s c) else none))) (fun a => some (0, setO (setC s a.2) 0 (i2l a.1)))
def fh_came (s : LWS) (p0 : Int32) : Option (Int32 × LWS) :=
  hcatch (f_X10_came s.1 p0) (fun E c => (if E = "java/lang/IndexOutOfBoundsException" then some (1, setC s c) else none)) (fun a => some (0, setO (setC s a.2) 0 (i2l a.1)))
def fh_cameAnew (s : LWS) (p0 : Int32) : Option (Int32 × LWS) :=
  hcatch (f_X10_cameAnew s.1 p0) (fun E c => (if E = "java/lang/IndexOutOfBoundsException" then some (1, setC s c) else none)) (fun a => some (0, setO (setC s a.2) 0 (i2l a.1)))
def fh_bad (s : LWS) (p0 : Int32) (p1 : Int32) : Option (Int32 × LWS) :=
  hcatch (f_X10_bad s.1 p0 p1) (fun E c => (if E = "java/lang/IndexOutOfBoundsException" then some (1, setC s c) else (if E = "java/lang/IllegalArgumentException" then some (2, setC s c) else none))) (fun a => some (0, setO (setC s a.2) 0 (i2l a.1)))
def fh_tells (s : LWS) (p0 : Int32) (p1 : Int32) : Option (Int32 × LWS) :=
  hcatch (f_X10_tells s.1 p0 p1) (fun E c => (if E = "java/lang/IndexOutOfBoundsException" then some (1, setC s c) else (if E = "java/lang/IllegalArgumentException" then some (2, setC s c) else none))) (fun a => some (0, setO (setC s a.2) 0 (a.1)))
def fh_far (s : LWS) (p0 : Int32) (p1 : Int32) : Option (Int32 × LWS) :=
  hcatch (f_X10_far s.1 p0 p1) (fun E c => (if E = "java/lang/IllegalArgumentException" then some (1, setC s c) else none)) (fun a => some (0, setO (setC s a.2) 0 (i2l a.1)))
def fh_step (s : LWS) (p0 : Int32) (p1 : Int32) : Option (Int32 × LWS) :=
  hcatch (f_X10_step s.1 p0 p1) (fun E c => (if E = "java/lang/IllegalArgumentException" then some (1, setC s c) else none)) (fun a => some (0, setO (setC s a.2) 0 (i2l a.1)))
def fh_manyFar (s : LWS) (p0 : Int32) (p1 : Int32) : Option (Int32 × LWS) :=
  hcatch (f_X10_manyFar s.1 p0 p1) (fun E c => (if E = "java/lang/IllegalArgumentException" then some (1, setC s c) else none)) (fun a => some (0, setO (setC s a.2) 0 (i2l a.1)))
def fh_ask (s : LWS) (p0 : Int32) (p1 : Int32) : Option (Int32 × LWS) :=
  hcatch (f_X10_ask s.1 p0 p1) (fun E c => (if E = "java/lang/IndexOutOfBoundsException" then some (1, setC s c) else (if E = "java/lang/IllegalArgumentException" then some (2, setC s c) else none))) (fun a => some (0, setO (setC s a.2) 0 ((if a.1 = 0 then 0 else 1))))
set_option maxRecDepth 100000 in
set_option maxHeartbeats 4000000 in
theorem th_network (l : Launch) (D : va_G) (ad : Nat → Nat) (cy : Nat → ClassId) (hfl : l.stackTraces = false) {s : LWS} {p0 : Int32} {o : Int32 × LWS} (E : fh_network s p0 = some o) : CtH l D cy (LW ad cy) yL_network cL_network 4 [(0, 9, 12, 13)] 9 172 1 6 [.ref (ad 0), .int p0, .ref (ad 54)] s o.1 o.2 := by
  refine sH (own := RL) rfl rfl (Nat.le_of_ble_eq_true rfl) (fun X O hT hN hret => ?_)
  show G l D X 4 (LW ad cy) 0 0 s 0 [(0, .ref (ad 0)), (1, .int p0), (2, .ref (ad 54))] []
  unfold fh_network at E
  obtain ⟨z, c1, ex, E⟩ := hcatch_of E
  refine g_aload_n (pc' := 1) O ⟨dL_network_0, rfl⟩ (q := 2) rfl rfl ?_
  refine g_iconst (pc' := 2) O ⟨dL_network_1, rfl⟩ (v := (0 : Int32)) rfl ?_
  refine g_aload_n (pc' := 3) O ⟨dL_network_2, rfl⟩ (q := 0) rfl rfl ?_
  refine g_iload_n (pc' := 4) O ⟨dL_network_3, rfl⟩ (q := 1) rfl rfl ?_
  refine g_UXi (pc' := 7) O ⟨dL_network_4, rfl⟩ (y := yX10_network) (As := [.int p0]) (st := [.int (0 : Int32), .ref (ad 54)]) (subC ad cy s) (t_X10_network l D ad cy hfl (h := s.1) c1) kw_557 kw_60 kw_554 kw_555 kw_556 rfl (wL_0 ad cy s) hd_X10_network ⟨Nat.le_of_ble_eq_true rfl, Nat.le_of_ble_eq_true rfl⟩ ⟨Nat.le_of_ble_eq_true rfl, Nat.le_of_ble_eq_true rfl⟩ rfl (Nat.le_of_ble_eq_true rfl) (fun E1 c q => ?_) (fun a q => ?_)
  · replace E := ex E1 c q
    rcases Classical.em (E1 = "java/lang/IllegalArgumentException") with e1 | e1
    · subst e1
      replace E := ite_t E rfl
      cases E
      refine g_catch (pre := []) (suf := []) (z := ⟨0, 9, 12, 13⟩) O hN hT (fun _ h => absurd h List.not_mem_nil) rfl (by decide) kw_553 kw_560 (fun q9 => ?_)
      refine g_astore_n (pc' := 13) O ⟨dL_network_12, rfl⟩ (lv' := [(3, .ref q9), (0, .ref (ad 0)), (1, .int p0), (2, .ref (ad 54))]) rfl (by decide) rfl ?_
      refine g_iconst (pc' := 14) O ⟨dL_network_13, rfl⟩ (v := (1 : Int32)) rfl ?_
      exact hret _ _ _ _ _ (Nat.le_of_ble_eq_true rfl) (Nat.le_of_ble_eq_true rfl) ⟨dL_network_14, rfl⟩
    · replace E := ite_f E e1
      cases E
  · replace E := E a q
    cases E
    refine g_i2l (pc' := 8) O ⟨dL_network_7, rfl⟩ ?_
    refine g_last (pc' := 9) O ⟨dL_network_8, rfl⟩ (wL_54 ad cy _) (vL_54 ad cy _ _) (b := some ()) (o := ()) rfl (fun _ => ?_)
    refine g_goto (pc' := 12) O ⟨dL_network_9, rfl⟩ (tgt := 15) (by decide) ?_
    refine g_iconst (pc' := 16) O ⟨dL_network_15, rfl⟩ (v := (0 : Int32)) rfl ?_
    exact hret _ _ _ _ _ (Nat.le_of_ble_eq_true rfl) (Nat.le_of_ble_eq_true rfl) ⟨dL_network_16, rfl⟩
set_option maxRecDepth 100000 in
set_option maxHeartbeats 4000000 in
theorem th_add (l : Launch) (D : va_G) (ad : Nat → Nat) (cy : Nat → ClassId) (hfl : l.stackTraces = false) {s : LWS} {p0 : Int32} {p1 : Int32} {o : Int32 × LWS} (E : fh_add s p0 p1 = some o) : CtH l D cy (LW ad cy) yL_add cL_add 5 [(0, 10, 13, 19), (0, 10, 17, 13), (0, 10, 21, 21)] 11 215 4 24 [.ref (ad 0), .int p0, .int p1, .ref (ad 54)] s o.1 o.2 := by
  refine sH (own := RL) rfl rfl (Nat.le_of_ble_eq_true rfl) (fun X O hT hN hret => ?_)
  show G l D X 5 (LW ad cy) 0 0 s 0 [(0, .ref (ad 0)), (1, .int p0), (2, .int p1), (3, .ref (ad 54))] []
  unfold fh_add at E
  obtain ⟨z, c1, ex, E⟩ := hcatch_of E
  refine g_aload_n (pc' := 1) O ⟨dL_add_0, rfl⟩ (q := 3) rfl rfl ?_
  refine g_iconst (pc' := 2) O ⟨dL_add_1, rfl⟩ (v := (0 : Int32)) rfl ?_
  refine g_aload_n (pc' := 3) O ⟨dL_add_2, rfl⟩ (q := 0) rfl rfl ?_
  refine g_iload_n (pc' := 4) O ⟨dL_add_3, rfl⟩ (q := 1) rfl rfl ?_
  refine g_iload_n (pc' := 5) O ⟨dL_add_4, rfl⟩ (q := 2) rfl rfl ?_
  refine g_UXi (pc' := 8) O ⟨dL_add_5, rfl⟩ (y := yX10_add) (As := [.int p0, .int p1]) (st := [.int (0 : Int32), .ref (ad 54)]) (subC ad cy s) (t_X10_add l D ad cy hfl (h := s.1) c1) kw_641 kw_60 kw_638 kw_639 kw_640 rfl (wL_0 ad cy s) hd_X10_add ⟨Nat.le_of_ble_eq_true rfl, Nat.le_of_ble_eq_true rfl⟩ ⟨Nat.le_of_ble_eq_true rfl, Nat.le_of_ble_eq_true rfl⟩ rfl (Nat.le_of_ble_eq_true rfl) (fun E1 c q => ?_) (fun a q => ?_)
  · replace E := ex E1 c q
    rcases Classical.em (E1 = "java/lang/IndexOutOfBoundsException") with e1 | e1
    · subst e1
      replace E := ite_t E rfl
      cases E
      refine g_catch (pre := []) (suf := [⟨0, 10, 17, 13⟩, ⟨0, 10, 21, 21⟩]) (z := ⟨0, 10, 13, 19⟩) O hN hT (fun _ h => absurd h List.not_mem_nil) rfl (by decide) kw_636 kw_652 (fun q9 => ?_)
      refine g_astore (pc' := 15) O ⟨dL_add_13, rfl⟩ (lv' := [(4, .ref q9), (0, .ref (ad 0)), (1, .int p0), (2, .int p1), (3, .ref (ad 54))]) (by decide) rfl ?_
      refine g_iconst (pc' := 16) O ⟨dL_add_15, rfl⟩ (v := (1 : Int32)) rfl ?_
      exact hret _ _ _ _ _ (Nat.le_of_ble_eq_true rfl) (Nat.le_of_ble_eq_true rfl) ⟨dL_add_16, rfl⟩
    · replace E := ite_f E e1
      rcases Classical.em (E1 = "java/lang/IllegalArgumentException") with e1 | e1
      · subst e1
        replace E := ite_t E rfl
        cases E
        refine g_catch (pre := [⟨0, 10, 13, 19⟩]) (suf := [⟨0, 10, 21, 21⟩]) (z := ⟨0, 10, 17, 13⟩) O hN hT (List.forall_mem_cons.mpr ⟨⟨by decide, _, kw_636, (by decide : ("java/lang/IllegalArgumentException", "java/lang/IndexOutOfBoundsException") ∈ NCP)⟩, fun _ h => absurd h List.not_mem_nil⟩) rfl (by decide) kw_553 kw_560 (fun q9 => ?_)
        refine g_astore (pc' := 19) O ⟨dL_add_17, rfl⟩ (lv' := [(4, .ref q9), (0, .ref (ad 0)), (1, .int p0), (2, .int p1), (3, .ref (ad 54))]) (by decide) rfl ?_
        refine g_iconst (pc' := 20) O ⟨dL_add_19, rfl⟩ (v := (2 : Int32)) rfl ?_
        exact hret _ _ _ _ _ (Nat.le_of_ble_eq_true rfl) (Nat.le_of_ble_eq_true rfl) ⟨dL_add_20, rfl⟩
      · replace E := ite_f E e1
        rcases Classical.em (E1 = "java/lang/IllegalStateException") with e1 | e1
        · subst e1
          replace E := ite_t E rfl
          cases E
          refine g_catch (pre := [⟨0, 10, 13, 19⟩, ⟨0, 10, 17, 13⟩]) (suf := []) (z := ⟨0, 10, 21, 21⟩) O hN hT (List.forall_mem_cons.mpr ⟨⟨by decide, _, kw_636, (by decide : ("java/lang/IllegalStateException", "java/lang/IndexOutOfBoundsException") ∈ NCP)⟩, List.forall_mem_cons.mpr ⟨⟨by decide, _, kw_553, (by decide : ("java/lang/IllegalStateException", "java/lang/IllegalArgumentException") ∈ NCP)⟩, fun _ h => absurd h List.not_mem_nil⟩⟩) rfl (by decide) kw_637 kw_673 (fun q9 => ?_)
          refine g_astore (pc' := 23) O ⟨dL_add_21, rfl⟩ (lv' := [(4, .ref q9), (0, .ref (ad 0)), (1, .int p0), (2, .int p1), (3, .ref (ad 54))]) (by decide) rfl ?_
          refine g_iconst (pc' := 24) O ⟨dL_add_23, rfl⟩ (v := (3 : Int32)) rfl ?_
          exact hret _ _ _ _ _ (Nat.le_of_ble_eq_true rfl) (Nat.le_of_ble_eq_true rfl) ⟨dL_add_24, rfl⟩
        · replace E := ite_f E e1
          cases E
  · replace E := E a q
    cases E
    refine g_i2l (pc' := 9) O ⟨dL_add_8, rfl⟩ ?_
    refine g_last (pc' := 10) O ⟨dL_add_9, rfl⟩ (wL_54 ad cy _) (vL_54 ad cy _ _) (b := some ()) (o := ()) rfl (fun _ => ?_)
    refine g_goto (pc' := 13) O ⟨dL_add_10, rfl⟩ (tgt := 25) (by decide) ?_
    refine g_iconst (pc' := 26) O ⟨dL_add_25, rfl⟩ (v := (0 : Int32)) rfl ?_
    exact hret _ _ _ _ _ (Nat.le_of_ble_eq_true rfl) (Nat.le_of_ble_eq_true rfl) ⟨dL_add_26, rfl⟩
set_option maxRecDepth 100000 in
set_option maxHeartbeats 4000000 in
theorem th_take (l : Launch) (D : va_G) (ad : Nat → Nat) (cy : Nat → ClassId) (hfl : l.stackTraces = false) {s : LWS}  {o : Int32 × LWS} (E : fh_take s  = some o) : CtH l D cy (LW ad cy) yL_take cL_take 3 [(0, 8, 11, 21)] 9 170 1 6 [.ref (ad 0), .ref (ad 54)] s o.1 o.2 := by
  refine sH (own := RL) rfl rfl (Nat.le_of_ble_eq_true rfl) (fun X O hT hN hret => ?_)
  show G l D X 3 (LW ad cy) 0 0 s 0 [(0, .ref (ad 0)), (1, .ref (ad 54))] []
  unfold fh_take at E
  obtain ⟨z, c1, ex, E⟩ := hcatch_of E
  refine g_aload_n (pc' := 1) O ⟨dL_take_0, rfl⟩ (q := 1) rfl rfl ?_
  refine g_iconst (pc' := 2) O ⟨dL_take_1, rfl⟩ (v := (0 : Int32)) rfl ?_
  refine g_aload_n (pc' := 3) O ⟨dL_take_2, rfl⟩ (q := 0) rfl rfl ?_
  refine g_UXi (pc' := 6) O ⟨dL_take_3, rfl⟩ (y := yX10_take) (As := []) (st := [.int (0 : Int32), .ref (ad 54)]) (subC ad cy s) (t_X10_take l D ad cy hfl (h := s.1) c1) kw_694 kw_60 kw_691 kw_692 kw_693 rfl (wL_0 ad cy s) hd_X10_take ⟨Nat.le_of_ble_eq_true rfl, Nat.le_of_ble_eq_true rfl⟩ ⟨Nat.le_of_ble_eq_true rfl, Nat.le_of_ble_eq_true rfl⟩ rfl (Nat.le_of_ble_eq_true rfl) (fun E1 c q => ?_) (fun a q => ?_)
  · replace E := ex E1 c q
    rcases Classical.em (E1 = "java/lang/IllegalStateException") with e1 | e1
    · subst e1
      replace E := ite_t E rfl
      cases E
      refine g_catch (pre := []) (suf := []) (z := ⟨0, 8, 11, 21⟩) O hN hT (fun _ h => absurd h List.not_mem_nil) rfl (by decide) kw_637 kw_673 (fun q9 => ?_)
      refine g_astore_n (pc' := 12) O ⟨dL_take_11, rfl⟩ (lv' := [(2, .ref q9), (0, .ref (ad 0)), (1, .ref (ad 54))]) rfl (by decide) rfl ?_
      refine g_iconst (pc' := 13) O ⟨dL_take_12, rfl⟩ (v := (1 : Int32)) rfl ?_
      exact hret _ _ _ _ _ (Nat.le_of_ble_eq_true rfl) (Nat.le_of_ble_eq_true rfl) ⟨dL_take_13, rfl⟩
    · replace E := ite_f E e1
      cases E
  · replace E := E a q
    cases E
    refine g_i2l (pc' := 7) O ⟨dL_take_6, rfl⟩ ?_
    refine g_last (pc' := 8) O ⟨dL_take_7, rfl⟩ (wL_54 ad cy _) (vL_54 ad cy _ _) (b := some ()) (o := ()) rfl (fun _ => ?_)
    refine g_goto (pc' := 11) O ⟨dL_take_8, rfl⟩ (tgt := 14) (by decide) ?_
    refine g_iconst (pc' := 15) O ⟨dL_take_14, rfl⟩ (v := (0 : Int32)) rfl ?_
    exact hret _ _ _ _ _ (Nat.le_of_ble_eq_true rfl) (Nat.le_of_ble_eq_true rfl) ⟨dL_take_15, rfl⟩
set_option maxRecDepth 100000 in
set_option maxHeartbeats 4000000 in
theorem th_make (l : Launch) (D : va_G) (ad : Nat → Nat) (cy : Nat → ClassId) (hfl : l.stackTraces = false) {s : LWS} {p0 : Int32} {o : Int32 × LWS} (E : fh_make s p0 = some o) : CtH l D cy (LW ad cy) yL_make cL_make 4 [(0, 9, 12, 13), (0, 9, 15, 21)] 11 213 2 12 [.ref (ad 0), .int p0, .ref (ad 54)] s o.1 o.2 := by
  refine sH (own := RL) rfl rfl (Nat.le_of_ble_eq_true rfl) (fun X O hT hN hret => ?_)
  show G l D X 4 (LW ad cy) 0 0 s 0 [(0, .ref (ad 0)), (1, .int p0), (2, .ref (ad 54))] []
  unfold fh_make at E
  obtain ⟨z, c1, ex, E⟩ := hcatch_of E
  refine g_aload_n (pc' := 1) O ⟨dL_make_0, rfl⟩ (q := 2) rfl rfl ?_
  refine g_iconst (pc' := 2) O ⟨dL_make_1, rfl⟩ (v := (0 : Int32)) rfl ?_
  refine g_aload_n (pc' := 3) O ⟨dL_make_2, rfl⟩ (q := 0) rfl rfl ?_
  refine g_iload_n (pc' := 4) O ⟨dL_make_3, rfl⟩ (q := 1) rfl rfl ?_
  refine g_UXi (pc' := 7) O ⟨dL_make_4, rfl⟩ (y := yX10_make) (As := [.int p0]) (st := [.int (0 : Int32), .ref (ad 54)]) (subC ad cy s) (t_X10_make l D ad cy hfl (h := s.1) c1) kw_706 kw_60 kw_703 kw_704 kw_705 rfl (wL_0 ad cy s) hd_X10_make ⟨Nat.le_of_ble_eq_true rfl, Nat.le_of_ble_eq_true rfl⟩ ⟨Nat.le_of_ble_eq_true rfl, Nat.le_of_ble_eq_true rfl⟩ rfl (Nat.le_of_ble_eq_true rfl) (fun E1 c q => ?_) (fun a q => ?_)
  · replace E := ex E1 c q
    rcases Classical.em (E1 = "java/lang/IllegalArgumentException") with e1 | e1
    · subst e1
      replace E := ite_t E rfl
      cases E
      refine g_catch (pre := []) (suf := [⟨0, 9, 15, 21⟩]) (z := ⟨0, 9, 12, 13⟩) O hN hT (fun _ h => absurd h List.not_mem_nil) rfl (by decide) kw_553 kw_560 (fun q9 => ?_)
      refine g_astore_n (pc' := 13) O ⟨dL_make_12, rfl⟩ (lv' := [(3, .ref q9), (0, .ref (ad 0)), (1, .int p0), (2, .ref (ad 54))]) rfl (by decide) rfl ?_
      refine g_iconst (pc' := 14) O ⟨dL_make_13, rfl⟩ (v := (1 : Int32)) rfl ?_
      exact hret _ _ _ _ _ (Nat.le_of_ble_eq_true rfl) (Nat.le_of_ble_eq_true rfl) ⟨dL_make_14, rfl⟩
    · replace E := ite_f E e1
      rcases Classical.em (E1 = "java/lang/IllegalStateException") with e1 | e1
      · subst e1
        replace E := ite_t E rfl
        cases E
        refine g_catch (pre := [⟨0, 9, 12, 13⟩]) (suf := []) (z := ⟨0, 9, 15, 21⟩) O hN hT (List.forall_mem_cons.mpr ⟨⟨by decide, _, kw_553, (by decide : ("java/lang/IllegalStateException", "java/lang/IllegalArgumentException") ∈ NCP)⟩, fun _ h => absurd h List.not_mem_nil⟩) rfl (by decide) kw_637 kw_673 (fun q9 => ?_)
        refine g_astore_n (pc' := 16) O ⟨dL_make_15, rfl⟩ (lv' := [(3, .ref q9), (0, .ref (ad 0)), (1, .int p0), (2, .ref (ad 54))]) rfl (by decide) rfl ?_
        refine g_iconst (pc' := 17) O ⟨dL_make_16, rfl⟩ (v := (2 : Int32)) rfl ?_
        exact hret _ _ _ _ _ (Nat.le_of_ble_eq_true rfl) (Nat.le_of_ble_eq_true rfl) ⟨dL_make_17, rfl⟩
      · replace E := ite_f E e1
        cases E
  · replace E := E a q
    cases E
    refine g_i2l (pc' := 8) O ⟨dL_make_7, rfl⟩ ?_
    refine g_last (pc' := 9) O ⟨dL_make_8, rfl⟩ (wL_54 ad cy _) (vL_54 ad cy _ _) (b := some ()) (o := ()) rfl (fun _ => ?_)
    refine g_goto (pc' := 12) O ⟨dL_make_9, rfl⟩ (tgt := 18) (by decide) ?_
    refine g_iconst (pc' := 19) O ⟨dL_make_18, rfl⟩ (v := (0 : Int32)) rfl ?_
    exact hret _ _ _ _ _ (Nat.le_of_ble_eq_true rfl) (Nat.le_of_ble_eq_true rfl) ⟨dL_make_19, rfl⟩
set_option maxRecDepth 100000 in
set_option maxHeartbeats 4000000 in
theorem th_told (l : Launch) (D : va_G) (ad : Nat → Nat) (cy : Nat → ClassId) (hfl : l.stackTraces = false) {s : LWS} {p0 : Int32} {o : Int32 × LWS} (E : fh_told s p0 = some o) : CtH l D cy (LW ad cy) yL_told cL_told 4 [(0, 9, 12, 13)] 9 171 1 6 [.ref (ad 0), .int p0, .ref (ad 54)] s o.1 o.2 := by
  refine sH (own := RL) rfl rfl (Nat.le_of_ble_eq_true rfl) (fun X O hT hN hret => ?_)
  show G l D X 4 (LW ad cy) 0 0 s 0 [(0, .ref (ad 0)), (1, .int p0), (2, .ref (ad 54))] []
  unfold fh_told at E
  obtain ⟨z, c1, ex, E⟩ := hcatch_of E
  refine g_aload_n (pc' := 1) O ⟨dL_told_0, rfl⟩ (q := 2) rfl rfl ?_
  refine g_iconst (pc' := 2) O ⟨dL_told_1, rfl⟩ (v := (0 : Int32)) rfl ?_
  refine g_aload_n (pc' := 3) O ⟨dL_told_2, rfl⟩ (q := 0) rfl rfl ?_
  refine g_iload_n (pc' := 4) O ⟨dL_told_3, rfl⟩ (q := 1) rfl rfl ?_
  refine g_UXi (pc' := 7) O ⟨dL_told_4, rfl⟩ (y := yX10_told) (As := [.int p0]) (st := [.int (0 : Int32), .ref (ad 54)]) (subC ad cy s) (t_X10_told l D ad cy hfl (h := s.1) c1) kw_735 kw_60 kw_732 kw_733 kw_734 rfl (wL_0 ad cy s) hd_X10_told ⟨Nat.le_of_ble_eq_true rfl, Nat.le_of_ble_eq_true rfl⟩ ⟨Nat.le_of_ble_eq_true rfl, Nat.le_of_ble_eq_true rfl⟩ rfl (Nat.le_of_ble_eq_true rfl) (fun E1 c q => ?_) (fun a q => ?_)
  · replace E := ex E1 c q
    rcases Classical.em (E1 = "java/lang/IllegalArgumentException") with e1 | e1
    · subst e1
      replace E := ite_t E rfl
      cases E
      refine g_catch (pre := []) (suf := []) (z := ⟨0, 9, 12, 13⟩) O hN hT (fun _ h => absurd h List.not_mem_nil) rfl (by decide) kw_553 kw_560 (fun q9 => ?_)
      refine g_astore_n (pc' := 13) O ⟨dL_told_12, rfl⟩ (lv' := [(3, .ref q9), (0, .ref (ad 0)), (1, .int p0), (2, .ref (ad 54))]) rfl (by decide) rfl ?_
      refine g_iconst (pc' := 14) O ⟨dL_told_13, rfl⟩ (v := (1 : Int32)) rfl ?_
      exact hret _ _ _ _ _ (Nat.le_of_ble_eq_true rfl) (Nat.le_of_ble_eq_true rfl) ⟨dL_told_14, rfl⟩
    · replace E := ite_f E e1
      cases E
  · replace E := E a q
    cases E
    refine g_i2l (pc' := 8) O ⟨dL_told_7, rfl⟩ ?_
    refine g_last (pc' := 9) O ⟨dL_told_8, rfl⟩ (wL_54 ad cy _) (vL_54 ad cy _ _) (b := some ()) (o := ()) rfl (fun _ => ?_)
    refine g_goto (pc' := 12) O ⟨dL_told_9, rfl⟩ (tgt := 15) (by decide) ?_
    refine g_iconst (pc' := 16) O ⟨dL_told_15, rfl⟩ (v := (0 : Int32)) rfl ?_
    exact hret _ _ _ _ _ (Nat.le_of_ble_eq_true rfl) (Nat.le_of_ble_eq_true rfl) ⟨dL_told_16, rfl⟩
set_option maxRecDepth 100000 in
set_option maxHeartbeats 4000000 in
theorem th_comparator (l : Launch) (D : va_G) (ad : Nat → Nat) (cy : Nat → ClassId) (hfl : l.stackTraces = false) {s : LWS} {p0 : Int32} {p1 : Int32} {o : Int32 × LWS} (E : fh_comparator s p0 p1 = some o) : CtH l D cy (LW ad cy) yL_comparator cL_comparator 5 [(0, 10, 13, 19), (0, 10, 17, 13)] 10 193 2 12 [.ref (ad 0), .int p0, .int p1, .ref (ad 54)] s o.1 o.2 := by
  refine sH (own := RL) rfl rfl (Nat.le_of_ble_eq_true rfl) (fun X O hT hN hret => ?_)
  show G l D X 5 (LW ad cy) 0 0 s 0 [(0, .ref (ad 0)), (1, .int p0), (2, .int p1), (3, .ref (ad 54))] []
  unfold fh_comparator at E
  obtain ⟨z, c1, ex, E⟩ := hcatch_of E
  refine g_aload_n (pc' := 1) O ⟨dL_comparator_0, rfl⟩ (q := 3) rfl rfl ?_
  refine g_iconst (pc' := 2) O ⟨dL_comparator_1, rfl⟩ (v := (0 : Int32)) rfl ?_
  refine g_aload_n (pc' := 3) O ⟨dL_comparator_2, rfl⟩ (q := 0) rfl rfl ?_
  refine g_iload_n (pc' := 4) O ⟨dL_comparator_3, rfl⟩ (q := 1) rfl rfl ?_
  refine g_iload_n (pc' := 5) O ⟨dL_comparator_4, rfl⟩ (q := 2) rfl rfl ?_
  refine g_UXi (pc' := 8) O ⟨dL_comparator_5, rfl⟩ (y := yX10_comparator) (As := [.int p0, .int p1]) (st := [.int (0 : Int32), .ref (ad 54)]) (subC ad cy s) (t_X10_comparator l D ad cy hfl (h := s.1) c1) kw_764 kw_60 kw_761 kw_762 kw_763 rfl (wL_0 ad cy s) hd_X10_comparator ⟨Nat.le_of_ble_eq_true rfl, Nat.le_of_ble_eq_true rfl⟩ ⟨Nat.le_of_ble_eq_true rfl, Nat.le_of_ble_eq_true rfl⟩ rfl (Nat.le_of_ble_eq_true rfl) (fun E1 c q => ?_) (fun a q => ?_)
  · replace E := ex E1 c q
    rcases Classical.em (E1 = "java/lang/IndexOutOfBoundsException") with e1 | e1
    · subst e1
      replace E := ite_t E rfl
      cases E
      refine g_catch (pre := []) (suf := [⟨0, 10, 17, 13⟩]) (z := ⟨0, 10, 13, 19⟩) O hN hT (fun _ h => absurd h List.not_mem_nil) rfl (by decide) kw_636 kw_652 (fun q9 => ?_)
      refine g_astore (pc' := 15) O ⟨dL_comparator_13, rfl⟩ (lv' := [(4, .ref q9), (0, .ref (ad 0)), (1, .int p0), (2, .int p1), (3, .ref (ad 54))]) (by decide) rfl ?_
      refine g_iconst (pc' := 16) O ⟨dL_comparator_15, rfl⟩ (v := (1 : Int32)) rfl ?_
      exact hret _ _ _ _ _ (Nat.le_of_ble_eq_true rfl) (Nat.le_of_ble_eq_true rfl) ⟨dL_comparator_16, rfl⟩
    · replace E := ite_f E e1
      rcases Classical.em (E1 = "java/lang/IllegalArgumentException") with e1 | e1
      · subst e1
        replace E := ite_t E rfl
        cases E
        refine g_catch (pre := [⟨0, 10, 13, 19⟩]) (suf := []) (z := ⟨0, 10, 17, 13⟩) O hN hT (List.forall_mem_cons.mpr ⟨⟨by decide, _, kw_636, (by decide : ("java/lang/IllegalArgumentException", "java/lang/IndexOutOfBoundsException") ∈ NCP)⟩, fun _ h => absurd h List.not_mem_nil⟩) rfl (by decide) kw_553 kw_560 (fun q9 => ?_)
        refine g_astore (pc' := 19) O ⟨dL_comparator_17, rfl⟩ (lv' := [(4, .ref q9), (0, .ref (ad 0)), (1, .int p0), (2, .int p1), (3, .ref (ad 54))]) (by decide) rfl ?_
        refine g_iconst (pc' := 20) O ⟨dL_comparator_19, rfl⟩ (v := (2 : Int32)) rfl ?_
        exact hret _ _ _ _ _ (Nat.le_of_ble_eq_true rfl) (Nat.le_of_ble_eq_true rfl) ⟨dL_comparator_20, rfl⟩
      · replace E := ite_f E e1
        cases E
  · replace E := E a q
    cases E
    refine g_i2l (pc' := 9) O ⟨dL_comparator_8, rfl⟩ ?_
    refine g_last (pc' := 10) O ⟨dL_comparator_9, rfl⟩ (wL_54 ad cy _) (vL_54 ad cy _ _) (b := some ()) (o := ()) rfl (fun _ => ?_)
    refine g_goto (pc' := 13) O ⟨dL_comparator_10, rfl⟩ (tgt := 21) (by decide) ?_
    refine g_iconst (pc' := 22) O ⟨dL_comparator_21, rfl⟩ (v := (0 : Int32)) rfl ?_
    exact hret _ _ _ _ _ (Nat.le_of_ble_eq_true rfl) (Nat.le_of_ble_eq_true rfl) ⟨dL_comparator_22, rfl⟩
set_option maxRecDepth 100000 in
set_option maxHeartbeats 4000000 in
theorem th_textAt (l : Launch) (D : va_G) (ad : Nat → Nat) (cy : Nat → ClassId) (hfl : l.stackTraces = false) {s : LWS} {p0 : Int32} {o : Int32 × LWS} (E : fh_textAt s p0 = some o) : CtH l D cy (LW ad cy) yL_textAt cL_textAt 4 [(0, 9, 12, 19)] 10 191 1 6 [.ref (ad 0), .int p0, .ref (ad 54)] s o.1 o.2 := by
  refine sH (own := RL) rfl rfl (Nat.le_of_ble_eq_true rfl) (fun X O hT hN hret => ?_)
  show G l D X 4 (LW ad cy) 0 0 s 0 [(0, .ref (ad 0)), (1, .int p0), (2, .ref (ad 54))] []
  unfold fh_textAt at E
  obtain ⟨z, c1, ex, E⟩ := hcatch_of E
  refine g_aload_n (pc' := 1) O ⟨dL_textAt_0, rfl⟩ (q := 2) rfl rfl ?_
  refine g_iconst (pc' := 2) O ⟨dL_textAt_1, rfl⟩ (v := (0 : Int32)) rfl ?_
  refine g_aload_n (pc' := 3) O ⟨dL_textAt_2, rfl⟩ (q := 0) rfl rfl ?_
  refine g_iload_n (pc' := 4) O ⟨dL_textAt_3, rfl⟩ (q := 1) rfl rfl ?_
  refine g_UXi (pc' := 7) O ⟨dL_textAt_4, rfl⟩ (y := yX10_textAt) (As := [.int p0]) (st := [.int (0 : Int32), .ref (ad 54)]) (subC ad cy s) (t_X10_textAt l D ad cy hfl (h := s.1) c1) kw_784 kw_60 kw_781 kw_782 kw_783 rfl (wL_0 ad cy s) hd_X10_textAt ⟨Nat.le_of_ble_eq_true rfl, Nat.le_of_ble_eq_true rfl⟩ ⟨Nat.le_of_ble_eq_true rfl, Nat.le_of_ble_eq_true rfl⟩ rfl (Nat.le_of_ble_eq_true rfl) (fun E1 c q => ?_) (fun a q => ?_)
  · replace E := ex E1 c q
    rcases Classical.em (E1 = "java/lang/IndexOutOfBoundsException") with e1 | e1
    · subst e1
      replace E := ite_t E rfl
      cases E
      refine g_catch (pre := []) (suf := []) (z := ⟨0, 9, 12, 19⟩) O hN hT (fun _ h => absurd h List.not_mem_nil) rfl (by decide) kw_636 kw_652 (fun q9 => ?_)
      refine g_astore_n (pc' := 13) O ⟨dL_textAt_12, rfl⟩ (lv' := [(3, .ref q9), (0, .ref (ad 0)), (1, .int p0), (2, .ref (ad 54))]) rfl (by decide) rfl ?_
      refine g_iconst (pc' := 14) O ⟨dL_textAt_13, rfl⟩ (v := (1 : Int32)) rfl ?_
      exact hret _ _ _ _ _ (Nat.le_of_ble_eq_true rfl) (Nat.le_of_ble_eq_true rfl) ⟨dL_textAt_14, rfl⟩
    · replace E := ite_f E e1
      cases E
  · replace E := E a q
    cases E
    refine g_i2l (pc' := 8) O ⟨dL_textAt_7, rfl⟩ ?_
    refine g_last (pc' := 9) O ⟨dL_textAt_8, rfl⟩ (wL_54 ad cy _) (vL_54 ad cy _ _) (b := some ()) (o := ()) rfl (fun _ => ?_)
    refine g_goto (pc' := 12) O ⟨dL_textAt_9, rfl⟩ (tgt := 15) (by decide) ?_
    refine g_iconst (pc' := 16) O ⟨dL_textAt_15, rfl⟩ (v := (0 : Int32)) rfl ?_
    exact hret _ _ _ _ _ (Nat.le_of_ble_eq_true rfl) (Nat.le_of_ble_eq_true rfl) ⟨dL_textAt_16, rfl⟩
set_option maxRecDepth 100000 in
set_option maxHeartbeats 4000000 in
theorem th_type (l : Launch) (D : va_G) (ad : Nat → Nat) (cy : Nat → ClassId) (hfl : l.stackTraces = false) {s : LWS} {p0 : Int64} {p1 : Int32} {o : Int32 × LWS} (E : fh_type s p0 p1 = some o) : CtH l D cy (LW ad cy) yL_type cL_type 6 [(0, 11, 14, 13), (0, 11, 18, 21)] 9 174 1 6 [.ref (ad 0), .long p0, .int p1, .ref (ad 54)] s o.1 o.2 := by
  refine sH (own := RL) rfl rfl (Nat.le_of_ble_eq_true rfl) (fun X O hT hN hret => ?_)
  show G l D X 6 (LW ad cy) 0 0 s 0 [(0, .ref (ad 0)), (1, .long p0), (3, .int p1), (4, .ref (ad 54))] []
  unfold fh_type at E
  obtain ⟨z, c1, ex, E⟩ := hcatch_of E
  refine g_aload (pc' := 2) O ⟨dL_type_0, rfl⟩ (q := 3) rfl ?_
  refine g_iconst (pc' := 3) O ⟨dL_type_2, rfl⟩ (v := (0 : Int32)) rfl ?_
  refine g_aload_n (pc' := 4) O ⟨dL_type_3, rfl⟩ (q := 0) rfl rfl ?_
  refine g_lload_n (pc' := 5) O ⟨dL_type_4, rfl⟩ (q := 1) rfl rfl ?_
  refine g_iload_n (pc' := 6) O ⟨dL_type_5, rfl⟩ (q := 2) rfl rfl ?_
  refine g_UXi (pc' := 9) O ⟨dL_type_6, rfl⟩ (y := yX10_type) (As := [.long p0, .int p1]) (st := [.int (0 : Int32), .ref (ad 54)]) (subC ad cy s) (t_X10_type l D ad cy hfl (h := s.1) c1) kw_811 kw_60 kw_808 kw_809 kw_810 rfl (wL_0 ad cy s) hd_X10_type ⟨Nat.le_of_ble_eq_true rfl, Nat.le_of_ble_eq_true rfl⟩ ⟨Nat.le_of_ble_eq_true rfl, Nat.le_of_ble_eq_true rfl⟩ rfl (Nat.le_of_ble_eq_true rfl) (fun E1 c q => ?_) (fun a q => ?_)
  · replace E := ex E1 c q
    rcases Classical.em (E1 = "java/lang/IllegalArgumentException") with e1 | e1
    · subst e1
      replace E := ite_t E rfl
      cases E
      refine g_catch (pre := []) (suf := [⟨0, 11, 18, 21⟩]) (z := ⟨0, 11, 14, 13⟩) O hN hT (fun _ h => absurd h List.not_mem_nil) rfl (by decide) kw_553 kw_560 (fun q9 => ?_)
      refine g_astore (pc' := 16) O ⟨dL_type_14, rfl⟩ (lv' := [(5, .ref q9), (0, .ref (ad 0)), (1, .long p0), (3, .int p1), (4, .ref (ad 54))]) (by decide) rfl ?_
      refine g_iconst (pc' := 17) O ⟨dL_type_16, rfl⟩ (v := (1 : Int32)) rfl ?_
      exact hret _ _ _ _ _ (Nat.le_of_ble_eq_true rfl) (Nat.le_of_ble_eq_true rfl) ⟨dL_type_17, rfl⟩
    · replace E := ite_f E e1
      rcases Classical.em (E1 = "java/lang/IllegalStateException") with e1 | e1
      · subst e1
        replace E := ite_t E rfl
        cases E
        refine g_catch (pre := [⟨0, 11, 14, 13⟩]) (suf := []) (z := ⟨0, 11, 18, 21⟩) O hN hT (List.forall_mem_cons.mpr ⟨⟨by decide, _, kw_553, (by decide : ("java/lang/IllegalStateException", "java/lang/IllegalArgumentException") ∈ NCP)⟩, fun _ h => absurd h List.not_mem_nil⟩) rfl (by decide) kw_637 kw_673 (fun q9 => ?_)
        refine g_astore (pc' := 20) O ⟨dL_type_18, rfl⟩ (lv' := [(5, .ref q9), (0, .ref (ad 0)), (1, .long p0), (3, .int p1), (4, .ref (ad 54))]) (by decide) rfl ?_
        refine g_iconst (pc' := 21) O ⟨dL_type_20, rfl⟩ (v := (2 : Int32)) rfl ?_
        exact hret _ _ _ _ _ (Nat.le_of_ble_eq_true rfl) (Nat.le_of_ble_eq_true rfl) ⟨dL_type_21, rfl⟩
      · replace E := ite_f E e1
        cases E
  · replace E := E a q
    cases E
    refine g_i2l (pc' := 10) O ⟨dL_type_9, rfl⟩ ?_
    refine g_last (pc' := 11) O ⟨dL_type_10, rfl⟩ (wL_54 ad cy _) (vL_54 ad cy _ _) (b := some ()) (o := ()) rfl (fun _ => ?_)
    refine g_goto (pc' := 14) O ⟨dL_type_11, rfl⟩ (tgt := 22) (by decide) ?_
    refine g_iconst (pc' := 23) O ⟨dL_type_22, rfl⟩ (v := (0 : Int32)) rfl ?_
    exact hret _ _ _ _ _ (Nat.le_of_ble_eq_true rfl) (Nat.le_of_ble_eq_true rfl) ⟨dL_type_23, rfl⟩
set_option maxRecDepth 100000 in
set_option maxHeartbeats 4000000 in
theorem th_build (l : Launch) (D : va_G) (ad : Nat → Nat) (cy : Nat → ClassId) (hfl : l.stackTraces = false) {s : LWS}  {o : Int32 × LWS} (E : fh_build s  = some o) : CtH l D cy (LW ad cy) yL_build cL_build 3 [(0, 8, 11, 13), (0, 8, 14, 21)] 11 213 2 12 [.ref (ad 0), .ref (ad 54)] s o.1 o.2 := by
  refine sH (own := RL) rfl rfl (Nat.le_of_ble_eq_true rfl) (fun X O hT hN hret => ?_)
  show G l D X 3 (LW ad cy) 0 0 s 0 [(0, .ref (ad 0)), (1, .ref (ad 54))] []
  unfold fh_build at E
  obtain ⟨z, c1, ex, E⟩ := hcatch_of E
  refine g_aload_n (pc' := 1) O ⟨dL_build_0, rfl⟩ (q := 1) rfl rfl ?_
  refine g_iconst (pc' := 2) O ⟨dL_build_1, rfl⟩ (v := (0 : Int32)) rfl ?_
  refine g_aload_n (pc' := 3) O ⟨dL_build_2, rfl⟩ (q := 0) rfl rfl ?_
  refine g_UXi (pc' := 6) O ⟨dL_build_3, rfl⟩ (y := yX10_build) (As := []) (st := [.int (0 : Int32), .ref (ad 54)]) (subC ad cy s) (t_X10_build l D ad cy hfl (h := s.1) c1) kw_832 kw_60 kw_829 kw_830 kw_831 rfl (wL_0 ad cy s) hd_X10_build ⟨Nat.le_of_ble_eq_true rfl, Nat.le_of_ble_eq_true rfl⟩ ⟨Nat.le_of_ble_eq_true rfl, Nat.le_of_ble_eq_true rfl⟩ rfl (Nat.le_of_ble_eq_true rfl) (fun E1 c q => ?_) (fun a q => ?_)
  · replace E := ex E1 c q
    rcases Classical.em (E1 = "java/lang/IllegalArgumentException") with e1 | e1
    · subst e1
      replace E := ite_t E rfl
      cases E
      refine g_catch (pre := []) (suf := [⟨0, 8, 14, 21⟩]) (z := ⟨0, 8, 11, 13⟩) O hN hT (fun _ h => absurd h List.not_mem_nil) rfl (by decide) kw_553 kw_560 (fun q9 => ?_)
      refine g_astore_n (pc' := 12) O ⟨dL_build_11, rfl⟩ (lv' := [(2, .ref q9), (0, .ref (ad 0)), (1, .ref (ad 54))]) rfl (by decide) rfl ?_
      refine g_iconst (pc' := 13) O ⟨dL_build_12, rfl⟩ (v := (1 : Int32)) rfl ?_
      exact hret _ _ _ _ _ (Nat.le_of_ble_eq_true rfl) (Nat.le_of_ble_eq_true rfl) ⟨dL_build_13, rfl⟩
    · replace E := ite_f E e1
      rcases Classical.em (E1 = "java/lang/IllegalStateException") with e1 | e1
      · subst e1
        replace E := ite_t E rfl
        cases E
        refine g_catch (pre := [⟨0, 8, 11, 13⟩]) (suf := []) (z := ⟨0, 8, 14, 21⟩) O hN hT (List.forall_mem_cons.mpr ⟨⟨by decide, _, kw_553, (by decide : ("java/lang/IllegalStateException", "java/lang/IllegalArgumentException") ∈ NCP)⟩, fun _ h => absurd h List.not_mem_nil⟩) rfl (by decide) kw_637 kw_673 (fun q9 => ?_)
        refine g_astore_n (pc' := 15) O ⟨dL_build_14, rfl⟩ (lv' := [(2, .ref q9), (0, .ref (ad 0)), (1, .ref (ad 54))]) rfl (by decide) rfl ?_
        refine g_iconst (pc' := 16) O ⟨dL_build_15, rfl⟩ (v := (2 : Int32)) rfl ?_
        exact hret _ _ _ _ _ (Nat.le_of_ble_eq_true rfl) (Nat.le_of_ble_eq_true rfl) ⟨dL_build_16, rfl⟩
      · replace E := ite_f E e1
        cases E
  · replace E := E a q
    cases E
    refine g_i2l (pc' := 7) O ⟨dL_build_6, rfl⟩ ?_
    refine g_last (pc' := 8) O ⟨dL_build_7, rfl⟩ (wL_54 ad cy _) (vL_54 ad cy _ _) (b := some ()) (o := ()) rfl (fun _ => ?_)
    refine g_goto (pc' := 11) O ⟨dL_build_8, rfl⟩ (tgt := 17) (by decide) ?_
    refine g_iconst (pc' := 18) O ⟨dL_build_17, rfl⟩ (v := (0 : Int32)) rfl ?_
    exact hret _ _ _ _ _ (Nat.le_of_ble_eq_true rfl) (Nat.le_of_ble_eq_true rfl) ⟨dL_build_18, rfl⟩
set_option maxRecDepth 100000 in
set_option maxHeartbeats 4000000 in
theorem th_run (l : Launch) (D : va_G) (ad : Nat → Nat) (cy : Nat → ClassId) (hfl : l.stackTraces = false) {s : LWS} {p0 : Int32} {o : Int32 × LWS} (E : fh_run s p0 = some o) : CtH l D cy (LW ad cy) yL_run cL_run 4 [(0, 9, 12, 13)] 10 194 1 6 [.ref (ad 0), .int p0, .ref (ad 54)] s o.1 o.2 := by
  refine sH (own := RL) rfl rfl (Nat.le_of_ble_eq_true rfl) (fun X O hT hN hret => ?_)
  show G l D X 4 (LW ad cy) 0 0 s 0 [(0, .ref (ad 0)), (1, .int p0), (2, .ref (ad 54))] []
  unfold fh_run at E
  obtain ⟨z, c1, ex, E⟩ := hcatch_of E
  refine g_aload_n (pc' := 1) O ⟨dL_run_0, rfl⟩ (q := 2) rfl rfl ?_
  refine g_iconst (pc' := 2) O ⟨dL_run_1, rfl⟩ (v := (0 : Int32)) rfl ?_
  refine g_aload_n (pc' := 3) O ⟨dL_run_2, rfl⟩ (q := 0) rfl rfl ?_
  refine g_iload_n (pc' := 4) O ⟨dL_run_3, rfl⟩ (q := 1) rfl rfl ?_
  refine g_UXi (pc' := 7) O ⟨dL_run_4, rfl⟩ (y := yX10_run) (As := [.int p0]) (st := [.int (0 : Int32), .ref (ad 54)]) (subC ad cy s) (t_X10_run l D ad cy hfl (h := s.1) c1) kw_845 kw_60 kw_842 kw_843 kw_844 rfl (wL_0 ad cy s) hd_X10_run ⟨Nat.le_of_ble_eq_true rfl, Nat.le_of_ble_eq_true rfl⟩ ⟨Nat.le_of_ble_eq_true rfl, Nat.le_of_ble_eq_true rfl⟩ rfl (Nat.le_of_ble_eq_true rfl) (fun E1 c q => ?_) (fun a q => ?_)
  · replace E := ex E1 c q
    rcases Classical.em (E1 = "java/lang/IllegalArgumentException") with e1 | e1
    · subst e1
      replace E := ite_t E rfl
      cases E
      refine g_catch (pre := []) (suf := []) (z := ⟨0, 9, 12, 13⟩) O hN hT (fun _ h => absurd h List.not_mem_nil) rfl (by decide) kw_553 kw_560 (fun q9 => ?_)
      refine g_astore_n (pc' := 13) O ⟨dL_run_12, rfl⟩ (lv' := [(3, .ref q9), (0, .ref (ad 0)), (1, .int p0), (2, .ref (ad 54))]) rfl (by decide) rfl ?_
      refine g_iconst (pc' := 14) O ⟨dL_run_13, rfl⟩ (v := (1 : Int32)) rfl ?_
      exact hret _ _ _ _ _ (Nat.le_of_ble_eq_true rfl) (Nat.le_of_ble_eq_true rfl) ⟨dL_run_14, rfl⟩
    · replace E := ite_f E e1
      cases E
  · replace E := E a q
    cases E
    refine g_i2l (pc' := 8) O ⟨dL_run_7, rfl⟩ ?_
    refine g_last (pc' := 9) O ⟨dL_run_8, rfl⟩ (wL_54 ad cy _) (vL_54 ad cy _ _) (b := some ()) (o := ()) rfl (fun _ => ?_)
    refine g_goto (pc' := 12) O ⟨dL_run_9, rfl⟩ (tgt := 15) (by decide) ?_
    refine g_iconst (pc' := 16) O ⟨dL_run_15, rfl⟩ (v := (0 : Int32)) rfl ?_
    exact hret _ _ _ _ _ (Nat.le_of_ble_eq_true rfl) (Nat.le_of_ble_eq_true rfl) ⟨dL_run_16, rfl⟩
set_option maxRecDepth 100000 in
set_option maxHeartbeats 4000000 in
theorem th_wrong (l : Launch) (D : va_G) (ad : Nat → Nat) (cy : Nat → ClassId) (hfl : l.stackTraces = false) {s : LWS} {p0 : Int32} {o : Int32 × LWS} (E : fh_wrong s p0 = some o) : CtH l D cy (LW ad cy) yL_wrong cL_wrong 4 [(0, 9, 12, 19)] 10 191 1 6 [.ref (ad 0), .int p0, .ref (ad 54)] s o.1 o.2 := by
  refine sH (own := RL) rfl rfl (Nat.le_of_ble_eq_true rfl) (fun X O hT hN hret => ?_)
  show G l D X 4 (LW ad cy) 0 0 s 0 [(0, .ref (ad 0)), (1, .int p0), (2, .ref (ad 54))] []
  unfold fh_wrong at E
  obtain ⟨z, c1, ex, E⟩ := hcatch_of E
  refine g_aload_n (pc' := 1) O ⟨dL_wrong_0, rfl⟩ (q := 2) rfl rfl ?_
  refine g_iconst (pc' := 2) O ⟨dL_wrong_1, rfl⟩ (v := (0 : Int32)) rfl ?_
  refine g_aload_n (pc' := 3) O ⟨dL_wrong_2, rfl⟩ (q := 0) rfl rfl ?_
  refine g_iload_n (pc' := 4) O ⟨dL_wrong_3, rfl⟩ (q := 1) rfl rfl ?_
  refine g_UXi (pc' := 7) O ⟨dL_wrong_4, rfl⟩ (y := yX10_wrong) (As := [.int p0]) (st := [.int (0 : Int32), .ref (ad 54)]) (subC ad cy s) (t_X10_wrong l D ad cy hfl (h := s.1) c1) kw_869 kw_60 kw_866 kw_867 kw_868 rfl (wL_0 ad cy s) hd_X10_wrong ⟨Nat.le_of_ble_eq_true rfl, Nat.le_of_ble_eq_true rfl⟩ ⟨Nat.le_of_ble_eq_true rfl, Nat.le_of_ble_eq_true rfl⟩ rfl (Nat.le_of_ble_eq_true rfl) (fun E1 c q => ?_) (fun a q => ?_)
  · replace E := ex E1 c q
    rcases Classical.em (E1 = "java/lang/IndexOutOfBoundsException") with e1 | e1
    · subst e1
      replace E := ite_t E rfl
      cases E
      refine g_catch (pre := []) (suf := []) (z := ⟨0, 9, 12, 19⟩) O hN hT (fun _ h => absurd h List.not_mem_nil) rfl (by decide) kw_636 kw_652 (fun q9 => ?_)
      refine g_astore_n (pc' := 13) O ⟨dL_wrong_12, rfl⟩ (lv' := [(3, .ref q9), (0, .ref (ad 0)), (1, .int p0), (2, .ref (ad 54))]) rfl (by decide) rfl ?_
      refine g_iconst (pc' := 14) O ⟨dL_wrong_13, rfl⟩ (v := (1 : Int32)) rfl ?_
      exact hret _ _ _ _ _ (Nat.le_of_ble_eq_true rfl) (Nat.le_of_ble_eq_true rfl) ⟨dL_wrong_14, rfl⟩
    · replace E := ite_f E e1
      cases E
  · replace E := E a q
    cases E
    refine g_i2l (pc' := 8) O ⟨dL_wrong_7, rfl⟩ ?_
    refine g_last (pc' := 9) O ⟨dL_wrong_8, rfl⟩ (wL_54 ad cy _) (vL_54 ad cy _ _) (b := some ()) (o := ()) rfl (fun _ => ?_)
    refine g_goto (pc' := 12) O ⟨dL_wrong_9, rfl⟩ (tgt := 15) (by decide) ?_
    refine g_iconst (pc' := 16) O ⟨dL_wrong_15, rfl⟩ (v := (0 : Int32)) rfl ?_
    exact hret _ _ _ _ _ (Nat.le_of_ble_eq_true rfl) (Nat.le_of_ble_eq_true rfl) ⟨dL_wrong_16, rfl⟩
set_option maxRecDepth 100000 in
set_option maxHeartbeats 4000000 in
theorem th_finishes (l : Launch) (D : va_G) (ad : Nat → Nat) (cy : Nat → ClassId) (hfl : l.stackTraces = false) {s : LWS} {p0 : Int32} {o : Int32 × LWS} (E : fh_finishes s p0 = some o) : CtH l D cy (LW ad cy) yL_finishes cL_finishes 4 [(0, 9, 12, 13)] 12 331 1 6 [.ref (ad 0), .int p0, .ref (ad 54)] s o.1 o.2 := by
  refine sH (own := RL) rfl rfl (Nat.le_of_ble_eq_true rfl) (fun X O hT hN hret => ?_)
  show G l D X 4 (LW ad cy) 0 0 s 0 [(0, .ref (ad 0)), (1, .int p0), (2, .ref (ad 54))] []
  unfold fh_finishes at E
  obtain ⟨z, c1, ex, E⟩ := hcatch_of E
  refine g_aload_n (pc' := 1) O ⟨dL_finishes_0, rfl⟩ (q := 2) rfl rfl ?_
  refine g_iconst (pc' := 2) O ⟨dL_finishes_1, rfl⟩ (v := (0 : Int32)) rfl ?_
  refine g_aload_n (pc' := 3) O ⟨dL_finishes_2, rfl⟩ (q := 0) rfl rfl ?_
  refine g_iload_n (pc' := 4) O ⟨dL_finishes_3, rfl⟩ (q := 1) rfl rfl ?_
  refine g_UXi (pc' := 7) O ⟨dL_finishes_4, rfl⟩ (y := yX10_finishes) (As := [.int p0]) (st := [.int (0 : Int32), .ref (ad 54)]) (subC ad cy s) (t_X10_finishes l D ad cy hfl (h := s.1) c1) kw_879 kw_60 kw_876 kw_877 kw_878 rfl (wL_0 ad cy s) hd_X10_finishes ⟨Nat.le_of_ble_eq_true rfl, Nat.le_of_ble_eq_true rfl⟩ ⟨Nat.le_of_ble_eq_true rfl, Nat.le_of_ble_eq_true rfl⟩ rfl (Nat.le_of_ble_eq_true rfl) (fun E1 c q => ?_) (fun a q => ?_)
  · replace E := ex E1 c q
    rcases Classical.em (E1 = "java/lang/IllegalArgumentException") with e1 | e1
    · subst e1
      replace E := ite_t E rfl
      cases E
      refine g_catch (pre := []) (suf := []) (z := ⟨0, 9, 12, 13⟩) O hN hT (fun _ h => absurd h List.not_mem_nil) rfl (by decide) kw_553 kw_560 (fun q9 => ?_)
      refine g_astore_n (pc' := 13) O ⟨dL_finishes_12, rfl⟩ (lv' := [(3, .ref q9), (0, .ref (ad 0)), (1, .int p0), (2, .ref (ad 54))]) rfl (by decide) rfl ?_
      refine g_iconst (pc' := 14) O ⟨dL_finishes_13, rfl⟩ (v := (1 : Int32)) rfl ?_
      exact hret _ _ _ _ _ (Nat.le_of_ble_eq_true rfl) (Nat.le_of_ble_eq_true rfl) ⟨dL_finishes_14, rfl⟩
    · replace E := ite_f E e1
      cases E
  · replace E := E a q
    cases E
    refine g_i2l (pc' := 8) O ⟨dL_finishes_7, rfl⟩ ?_
    refine g_last (pc' := 9) O ⟨dL_finishes_8, rfl⟩ (wL_54 ad cy _) (vL_54 ad cy _ _) (b := some ()) (o := ()) rfl (fun _ => ?_)
    refine g_goto (pc' := 12) O ⟨dL_finishes_9, rfl⟩ (tgt := 15) (by decide) ?_
    refine g_iconst (pc' := 16) O ⟨dL_finishes_15, rfl⟩ (v := (0 : Int32)) rfl ?_
    exact hret _ _ _ _ _ (Nat.le_of_ble_eq_true rfl) (Nat.le_of_ble_eq_true rfl) ⟨dL_finishes_16, rfl⟩
set_option maxRecDepth 100000 in
set_option maxHeartbeats 4000000 in
theorem th_merges (l : Launch) (D : va_G) (ad : Nat → Nat) (cy : Nat → ClassId) (hfl : l.stackTraces = false) {s : LWS} {p0 : Int32} {o : Int32 × LWS} (E : fh_merges s p0 = some o) : CtH l D cy (LW ad cy) yL_merges cL_merges 4 [(0, 16, 19, 19)] 9 171 1 6 [.ref (ad 0), .int p0, .ref (ad 54)] s o.1 o.2 := by
  refine sH (own := RL) rfl rfl (Nat.le_of_ble_eq_true rfl) (fun X O hT hN hret => ?_)
  show G l D X 4 (LW ad cy) 0 0 s 0 [(0, .ref (ad 0)), (1, .int p0), (2, .ref (ad 54))] []
  unfold fh_merges at E
  obtain ⟨z, c1, ex, E⟩ := hcatch_of E
  refine g_aload_n (pc' := 1) O ⟨dL_merges_0, rfl⟩ (q := 2) rfl rfl ?_
  refine g_iconst (pc' := 2) O ⟨dL_merges_1, rfl⟩ (v := (0 : Int32)) rfl ?_
  refine g_aload_n (pc' := 3) O ⟨dL_merges_2, rfl⟩ (q := 0) rfl rfl ?_
  refine g_iload_n (pc' := 4) O ⟨dL_merges_3, rfl⟩ (q := 1) rfl rfl ?_
  refine g_UXi (pc' := 7) O ⟨dL_merges_4, rfl⟩ (y := yX10_merges) (As := [.int p0]) (st := [.int (0 : Int32), .ref (ad 54)]) (subC ad cy s) (t_X10_merges l D ad cy hfl (h := s.1) c1) kw_894 kw_60 kw_891 kw_892 kw_893 rfl (wL_0 ad cy s) hd_X10_merges ⟨Nat.le_of_ble_eq_true rfl, Nat.le_of_ble_eq_true rfl⟩ ⟨Nat.le_of_ble_eq_true rfl, Nat.le_of_ble_eq_true rfl⟩ rfl (Nat.le_of_ble_eq_true rfl) (fun E1 c q => ?_) (fun a q => ?_)
  · replace E := ex E1 c q
    rcases Classical.em (E1 = "java/lang/IndexOutOfBoundsException") with e1 | e1
    · subst e1
      replace E := ite_t E rfl
      cases E
      refine g_catch (pre := []) (suf := []) (z := ⟨0, 16, 19, 19⟩) O hN hT (fun _ h => absurd h List.not_mem_nil) rfl (by decide) kw_636 kw_652 (fun q9 => ?_)
      refine g_astore_n (pc' := 20) O ⟨dL_merges_19, rfl⟩ (lv' := [(3, .ref q9), (0, .ref (ad 0)), (1, .int p0), (2, .ref (ad 54))]) rfl (by decide) rfl ?_
      refine g_iconst (pc' := 21) O ⟨dL_merges_20, rfl⟩ (v := (1 : Int32)) rfl ?_
      exact hret _ _ _ _ _ (Nat.le_of_ble_eq_true rfl) (Nat.le_of_ble_eq_true rfl) ⟨dL_merges_21, rfl⟩
    · replace E := ite_f E e1
      cases E
  · replace E := E a q
    refine g_if_eq (pc' := 10) O ⟨dL_merges_7, rfl⟩ (a := if a.1 = 0 then some () else none) (b := if a.1 = 0 then none else some ()) (o := ()) (by by_cases e : a.1 = 0 <;> simp [e]) (tgt := 14) (by decide) (fun e => ?_) (fun e => ?_)
    · have e0 : a.1 = 0 := by by_cases e1 : a.1 = 0 <;> simp_all
      rw [if_pos e0] at E
      cases E
      refine g_lconst (pc' := 15) O ⟨dL_merges_14, rfl⟩ (v := (0 : Int64)) rfl ?_
      refine g_last (pc' := 16) O ⟨dL_merges_15, rfl⟩ (wL_54 ad cy _) (vL_54 ad cy _ _) (b := some ()) (o := ()) rfl (fun _ => ?_)
      refine g_goto (pc' := 19) O ⟨dL_merges_16, rfl⟩ (tgt := 22) (by decide) ?_
      refine g_iconst (pc' := 23) O ⟨dL_merges_22, rfl⟩ (v := (0 : Int32)) rfl ?_
      exact hret _ _ _ _ _ (Nat.le_of_ble_eq_true rfl) (Nat.le_of_ble_eq_true rfl) ⟨dL_merges_23, rfl⟩
    · have e0 : ¬ a.1 = 0 := by by_cases e1 : a.1 = 0 <;> simp_all
      rw [if_neg e0] at E
      cases E
      refine g_lconst (pc' := 11) O ⟨dL_merges_10, rfl⟩ (v := (1 : Int64)) rfl ?_
      refine g_goto (pc' := 14) O ⟨dL_merges_11, rfl⟩ (tgt := 15) (by decide) ?_
      refine g_last (pc' := 16) O ⟨dL_merges_15, rfl⟩ (wL_54 ad cy _) (vL_54 ad cy _ _) (b := some ()) (o := ()) rfl (fun _ => ?_)
      refine g_goto (pc' := 19) O ⟨dL_merges_16, rfl⟩ (tgt := 22) (by decide) ?_
      refine g_iconst (pc' := 23) O ⟨dL_merges_22, rfl⟩ (v := (0 : Int32)) rfl ?_
      exact hret _ _ _ _ _ (Nat.le_of_ble_eq_true rfl) (Nat.le_of_ble_eq_true rfl) ⟨dL_merges_23, rfl⟩
set_option maxRecDepth 100000 in
set_option maxHeartbeats 4000000 in
theorem th_chooses (l : Launch) (D : va_G) (ad : Nat → Nat) (cy : Nat → ClassId) (hfl : l.stackTraces = false) {s : LWS} {p0 : Int32} {o : Int32 × LWS} (E : fh_chooses s p0 = some o) : CtH l D cy (LW ad cy) yL_chooses cL_chooses 4 [(0, 16, 19, 13)] 9 171 1 6 [.ref (ad 0), .int p0, .ref (ad 54)] s o.1 o.2 := by
  refine sH (own := RL) rfl rfl (Nat.le_of_ble_eq_true rfl) (fun X O hT hN hret => ?_)
  show G l D X 4 (LW ad cy) 0 0 s 0 [(0, .ref (ad 0)), (1, .int p0), (2, .ref (ad 54))] []
  unfold fh_chooses at E
  obtain ⟨z, c1, ex, E⟩ := hcatch_of E
  refine g_aload_n (pc' := 1) O ⟨dL_chooses_0, rfl⟩ (q := 2) rfl rfl ?_
  refine g_iconst (pc' := 2) O ⟨dL_chooses_1, rfl⟩ (v := (0 : Int32)) rfl ?_
  refine g_aload_n (pc' := 3) O ⟨dL_chooses_2, rfl⟩ (q := 0) rfl rfl ?_
  refine g_iload_n (pc' := 4) O ⟨dL_chooses_3, rfl⟩ (q := 1) rfl rfl ?_
  refine g_UXi (pc' := 7) O ⟨dL_chooses_4, rfl⟩ (y := yX10_chooses) (As := [.int p0]) (st := [.int (0 : Int32), .ref (ad 54)]) (subC ad cy s) (t_X10_chooses l D ad cy hfl (h := s.1) c1) kw_906 kw_60 kw_903 kw_904 kw_905 rfl (wL_0 ad cy s) hd_X10_chooses ⟨Nat.le_of_ble_eq_true rfl, Nat.le_of_ble_eq_true rfl⟩ ⟨Nat.le_of_ble_eq_true rfl, Nat.le_of_ble_eq_true rfl⟩ rfl (Nat.le_of_ble_eq_true rfl) (fun E1 c q => ?_) (fun a q => ?_)
  · replace E := ex E1 c q
    rcases Classical.em (E1 = "java/lang/IllegalArgumentException") with e1 | e1
    · subst e1
      replace E := ite_t E rfl
      cases E
      refine g_catch (pre := []) (suf := []) (z := ⟨0, 16, 19, 13⟩) O hN hT (fun _ h => absurd h List.not_mem_nil) rfl (by decide) kw_553 kw_560 (fun q9 => ?_)
      refine g_astore_n (pc' := 20) O ⟨dL_chooses_19, rfl⟩ (lv' := [(3, .ref q9), (0, .ref (ad 0)), (1, .int p0), (2, .ref (ad 54))]) rfl (by decide) rfl ?_
      refine g_iconst (pc' := 21) O ⟨dL_chooses_20, rfl⟩ (v := (1 : Int32)) rfl ?_
      exact hret _ _ _ _ _ (Nat.le_of_ble_eq_true rfl) (Nat.le_of_ble_eq_true rfl) ⟨dL_chooses_21, rfl⟩
    · replace E := ite_f E e1
      cases E
  · replace E := E a q
    refine g_if_eq (pc' := 10) O ⟨dL_chooses_7, rfl⟩ (a := if a.1 = 0 then some () else none) (b := if a.1 = 0 then none else some ()) (o := ()) (by by_cases e : a.1 = 0 <;> simp [e]) (tgt := 14) (by decide) (fun e => ?_) (fun e => ?_)
    · have e0 : a.1 = 0 := by by_cases e1 : a.1 = 0 <;> simp_all
      rw [if_pos e0] at E
      cases E
      refine g_lconst (pc' := 15) O ⟨dL_chooses_14, rfl⟩ (v := (0 : Int64)) rfl ?_
      refine g_last (pc' := 16) O ⟨dL_chooses_15, rfl⟩ (wL_54 ad cy _) (vL_54 ad cy _ _) (b := some ()) (o := ()) rfl (fun _ => ?_)
      refine g_goto (pc' := 19) O ⟨dL_chooses_16, rfl⟩ (tgt := 22) (by decide) ?_
      refine g_iconst (pc' := 23) O ⟨dL_chooses_22, rfl⟩ (v := (0 : Int32)) rfl ?_
      exact hret _ _ _ _ _ (Nat.le_of_ble_eq_true rfl) (Nat.le_of_ble_eq_true rfl) ⟨dL_chooses_23, rfl⟩
    · have e0 : ¬ a.1 = 0 := by by_cases e1 : a.1 = 0 <;> simp_all
      rw [if_neg e0] at E
      cases E
      refine g_lconst (pc' := 11) O ⟨dL_chooses_10, rfl⟩ (v := (1 : Int64)) rfl ?_
      refine g_goto (pc' := 14) O ⟨dL_chooses_11, rfl⟩ (tgt := 15) (by decide) ?_
      refine g_last (pc' := 16) O ⟨dL_chooses_15, rfl⟩ (wL_54 ad cy _) (vL_54 ad cy _ _) (b := some ()) (o := ()) rfl (fun _ => ?_)
      refine g_goto (pc' := 19) O ⟨dL_chooses_16, rfl⟩ (tgt := 22) (by decide) ?_
      refine g_iconst (pc' := 23) O ⟨dL_chooses_22, rfl⟩ (v := (0 : Int32)) rfl ?_
      exact hret _ _ _ _ _ (Nat.le_of_ble_eq_true rfl) (Nat.le_of_ble_eq_true rfl) ⟨dL_chooses_23, rfl⟩
set_option maxRecDepth 100000 in
set_option maxHeartbeats 4000000 in
theorem th_setting (l : Launch) (D : va_G) (ad : Nat → Nat) (cy : Nat → ClassId) (hfl : l.stackTraces = false) {s : LWS} {p0 : Int32} {o : Int32 × LWS} (E : fh_setting s p0 = some o) : CtH l D cy (LW ad cy) yL_setting cL_setting 4 [(0, 9, 12, 13)] 10 194 1 6 [.ref (ad 0), .int p0, .ref (ad 54)] s o.1 o.2 := by
  refine sH (own := RL) rfl rfl (Nat.le_of_ble_eq_true rfl) (fun X O hT hN hret => ?_)
  show G l D X 4 (LW ad cy) 0 0 s 0 [(0, .ref (ad 0)), (1, .int p0), (2, .ref (ad 54))] []
  unfold fh_setting at E
  obtain ⟨z, c1, ex, E⟩ := hcatch_of E
  refine g_aload_n (pc' := 1) O ⟨dL_setting_0, rfl⟩ (q := 2) rfl rfl ?_
  refine g_iconst (pc' := 2) O ⟨dL_setting_1, rfl⟩ (v := (0 : Int32)) rfl ?_
  refine g_aload_n (pc' := 3) O ⟨dL_setting_2, rfl⟩ (q := 0) rfl rfl ?_
  refine g_iload_n (pc' := 4) O ⟨dL_setting_3, rfl⟩ (q := 1) rfl rfl ?_
  refine g_UXi (pc' := 7) O ⟨dL_setting_4, rfl⟩ (y := yX10_setting) (As := [.int p0]) (st := [.int (0 : Int32), .ref (ad 54)]) (subC ad cy s) (t_X10_setting l D ad cy hfl (h := s.1) c1) kw_918 kw_60 kw_915 kw_916 kw_917 rfl (wL_0 ad cy s) hd_X10_setting ⟨Nat.le_of_ble_eq_true rfl, Nat.le_of_ble_eq_true rfl⟩ ⟨Nat.le_of_ble_eq_true rfl, Nat.le_of_ble_eq_true rfl⟩ rfl (Nat.le_of_ble_eq_true rfl) (fun E1 c q => ?_) (fun a q => ?_)
  · replace E := ex E1 c q
    rcases Classical.em (E1 = "java/lang/IllegalArgumentException") with e1 | e1
    · subst e1
      replace E := ite_t E rfl
      cases E
      refine g_catch (pre := []) (suf := []) (z := ⟨0, 9, 12, 13⟩) O hN hT (fun _ h => absurd h List.not_mem_nil) rfl (by decide) kw_553 kw_560 (fun q9 => ?_)
      refine g_astore_n (pc' := 13) O ⟨dL_setting_12, rfl⟩ (lv' := [(3, .ref q9), (0, .ref (ad 0)), (1, .int p0), (2, .ref (ad 54))]) rfl (by decide) rfl ?_
      refine g_iconst (pc' := 14) O ⟨dL_setting_13, rfl⟩ (v := (1 : Int32)) rfl ?_
      exact hret _ _ _ _ _ (Nat.le_of_ble_eq_true rfl) (Nat.le_of_ble_eq_true rfl) ⟨dL_setting_14, rfl⟩
    · replace E := ite_f E e1
      cases E
  · replace E := E a q
    cases E
    refine g_i2l (pc' := 8) O ⟨dL_setting_7, rfl⟩ ?_
    refine g_last (pc' := 9) O ⟨dL_setting_8, rfl⟩ (wL_54 ad cy _) (vL_54 ad cy _ _) (b := some ()) (o := ()) rfl (fun _ => ?_)
    refine g_goto (pc' := 12) O ⟨dL_setting_9, rfl⟩ (tgt := 15) (by decide) ?_
    refine g_iconst (pc' := 16) O ⟨dL_setting_15, rfl⟩ (v := (0 : Int32)) rfl ?_
    exact hret _ _ _ _ _ (Nat.le_of_ble_eq_true rfl) (Nat.le_of_ble_eq_true rfl) ⟨dL_setting_16, rfl⟩
set_option maxRecDepth 100000 in
set_option maxHeartbeats 4000000 in
theorem th_token (l : Launch) (D : va_G) (ad : Nat → Nat) (cy : Nat → ClassId) (hfl : l.stackTraces = false) {s : LWS} {p0 : Int32} {o : Int32 × LWS} (E : fh_token s p0 = some o) : CtH l D cy (LW ad cy) yL_token cL_token 4 [(0, 9, 12, 19), (0, 9, 15, 21)] 10 192 2 12 [.ref (ad 0), .int p0, .ref (ad 54)] s o.1 o.2 := by
  refine sH (own := RL) rfl rfl (Nat.le_of_ble_eq_true rfl) (fun X O hT hN hret => ?_)
  show G l D X 4 (LW ad cy) 0 0 s 0 [(0, .ref (ad 0)), (1, .int p0), (2, .ref (ad 54))] []
  unfold fh_token at E
  obtain ⟨z, c1, ex, E⟩ := hcatch_of E
  refine g_aload_n (pc' := 1) O ⟨dL_token_0, rfl⟩ (q := 2) rfl rfl ?_
  refine g_iconst (pc' := 2) O ⟨dL_token_1, rfl⟩ (v := (0 : Int32)) rfl ?_
  refine g_aload_n (pc' := 3) O ⟨dL_token_2, rfl⟩ (q := 0) rfl rfl ?_
  refine g_iload_n (pc' := 4) O ⟨dL_token_3, rfl⟩ (q := 1) rfl rfl ?_
  refine g_UXi (pc' := 7) O ⟨dL_token_4, rfl⟩ (y := yX10_token) (As := [.int p0]) (st := [.int (0 : Int32), .ref (ad 54)]) (subC ad cy s) (t_X10_token l D ad cy hfl (h := s.1) c1) kw_929 kw_60 kw_926 kw_927 kw_928 rfl (wL_0 ad cy s) hd_X10_token ⟨Nat.le_of_ble_eq_true rfl, Nat.le_of_ble_eq_true rfl⟩ ⟨Nat.le_of_ble_eq_true rfl, Nat.le_of_ble_eq_true rfl⟩ rfl (Nat.le_of_ble_eq_true rfl) (fun E1 c q => ?_) (fun a q => ?_)
  · replace E := ex E1 c q
    rcases Classical.em (E1 = "java/lang/IndexOutOfBoundsException") with e1 | e1
    · subst e1
      replace E := ite_t E rfl
      cases E
      refine g_catch (pre := []) (suf := [⟨0, 9, 15, 21⟩]) (z := ⟨0, 9, 12, 19⟩) O hN hT (fun _ h => absurd h List.not_mem_nil) rfl (by decide) kw_636 kw_652 (fun q9 => ?_)
      refine g_astore_n (pc' := 13) O ⟨dL_token_12, rfl⟩ (lv' := [(3, .ref q9), (0, .ref (ad 0)), (1, .int p0), (2, .ref (ad 54))]) rfl (by decide) rfl ?_
      refine g_iconst (pc' := 14) O ⟨dL_token_13, rfl⟩ (v := (1 : Int32)) rfl ?_
      exact hret _ _ _ _ _ (Nat.le_of_ble_eq_true rfl) (Nat.le_of_ble_eq_true rfl) ⟨dL_token_14, rfl⟩
    · replace E := ite_f E e1
      rcases Classical.em (E1 = "java/lang/IllegalStateException") with e1 | e1
      · subst e1
        replace E := ite_t E rfl
        cases E
        refine g_catch (pre := [⟨0, 9, 12, 19⟩]) (suf := []) (z := ⟨0, 9, 15, 21⟩) O hN hT (List.forall_mem_cons.mpr ⟨⟨by decide, _, kw_636, (by decide : ("java/lang/IllegalStateException", "java/lang/IndexOutOfBoundsException") ∈ NCP)⟩, fun _ h => absurd h List.not_mem_nil⟩) rfl (by decide) kw_637 kw_673 (fun q9 => ?_)
        refine g_astore_n (pc' := 16) O ⟨dL_token_15, rfl⟩ (lv' := [(3, .ref q9), (0, .ref (ad 0)), (1, .int p0), (2, .ref (ad 54))]) rfl (by decide) rfl ?_
        refine g_iconst (pc' := 17) O ⟨dL_token_16, rfl⟩ (v := (2 : Int32)) rfl ?_
        exact hret _ _ _ _ _ (Nat.le_of_ble_eq_true rfl) (Nat.le_of_ble_eq_true rfl) ⟨dL_token_17, rfl⟩
      · replace E := ite_f E e1
        cases E
  · replace E := E a q
    cases E
    refine g_i2l (pc' := 8) O ⟨dL_token_7, rfl⟩ ?_
    refine g_last (pc' := 9) O ⟨dL_token_8, rfl⟩ (wL_54 ad cy _) (vL_54 ad cy _ _) (b := some ()) (o := ()) rfl (fun _ => ?_)
    refine g_goto (pc' := 12) O ⟨dL_token_9, rfl⟩ (tgt := 18) (by decide) ?_
    refine g_iconst (pc' := 19) O ⟨dL_token_18, rfl⟩ (v := (0 : Int32)) rfl ?_
    exact hret _ _ _ _ _ (Nat.le_of_ble_eq_true rfl) (Nat.le_of_ble_eq_true rfl) ⟨dL_token_19, rfl⟩
set_option maxRecDepth 100000 in
set_option maxHeartbeats 4000000 in
theorem th_came (l : Launch) (D : va_G) (ad : Nat → Nat) (cy : Nat → ClassId) (hfl : l.stackTraces = false) {s : LWS} {p0 : Int32} {o : Int32 × LWS} (E : fh_came s p0 = some o) : CtH l D cy (LW ad cy) yL_came cL_came 4 [(0, 9, 12, 19)] 10 192 1 6 [.ref (ad 0), .int p0, .ref (ad 54)] s o.1 o.2 := by
  refine sH (own := RL) rfl rfl (Nat.le_of_ble_eq_true rfl) (fun X O hT hN hret => ?_)
  show G l D X 4 (LW ad cy) 0 0 s 0 [(0, .ref (ad 0)), (1, .int p0), (2, .ref (ad 54))] []
  unfold fh_came at E
  obtain ⟨z, c1, ex, E⟩ := hcatch_of E
  refine g_aload_n (pc' := 1) O ⟨dL_came_0, rfl⟩ (q := 2) rfl rfl ?_
  refine g_iconst (pc' := 2) O ⟨dL_came_1, rfl⟩ (v := (0 : Int32)) rfl ?_
  refine g_aload_n (pc' := 3) O ⟨dL_came_2, rfl⟩ (q := 0) rfl rfl ?_
  refine g_iload_n (pc' := 4) O ⟨dL_came_3, rfl⟩ (q := 1) rfl rfl ?_
  refine g_UXi (pc' := 7) O ⟨dL_came_4, rfl⟩ (y := yX10_came) (As := [.int p0]) (st := [.int (0 : Int32), .ref (ad 54)]) (subC ad cy s) (t_X10_came l D ad cy hfl (h := s.1) c1) kw_941 kw_60 kw_938 kw_939 kw_940 rfl (wL_0 ad cy s) hd_X10_came ⟨Nat.le_of_ble_eq_true rfl, Nat.le_of_ble_eq_true rfl⟩ ⟨Nat.le_of_ble_eq_true rfl, Nat.le_of_ble_eq_true rfl⟩ rfl (Nat.le_of_ble_eq_true rfl) (fun E1 c q => ?_) (fun a q => ?_)
  · replace E := ex E1 c q
    rcases Classical.em (E1 = "java/lang/IndexOutOfBoundsException") with e1 | e1
    · subst e1
      replace E := ite_t E rfl
      cases E
      refine g_catch (pre := []) (suf := []) (z := ⟨0, 9, 12, 19⟩) O hN hT (fun _ h => absurd h List.not_mem_nil) rfl (by decide) kw_636 kw_652 (fun q9 => ?_)
      refine g_astore_n (pc' := 13) O ⟨dL_came_12, rfl⟩ (lv' := [(3, .ref q9), (0, .ref (ad 0)), (1, .int p0), (2, .ref (ad 54))]) rfl (by decide) rfl ?_
      refine g_iconst (pc' := 14) O ⟨dL_came_13, rfl⟩ (v := (1 : Int32)) rfl ?_
      exact hret _ _ _ _ _ (Nat.le_of_ble_eq_true rfl) (Nat.le_of_ble_eq_true rfl) ⟨dL_came_14, rfl⟩
    · replace E := ite_f E e1
      cases E
  · replace E := E a q
    cases E
    refine g_i2l (pc' := 8) O ⟨dL_came_7, rfl⟩ ?_
    refine g_last (pc' := 9) O ⟨dL_came_8, rfl⟩ (wL_54 ad cy _) (vL_54 ad cy _ _) (b := some ()) (o := ()) rfl (fun _ => ?_)
    refine g_goto (pc' := 12) O ⟨dL_came_9, rfl⟩ (tgt := 15) (by decide) ?_
    refine g_iconst (pc' := 16) O ⟨dL_came_15, rfl⟩ (v := (0 : Int32)) rfl ?_
    exact hret _ _ _ _ _ (Nat.le_of_ble_eq_true rfl) (Nat.le_of_ble_eq_true rfl) ⟨dL_came_16, rfl⟩
set_option maxRecDepth 100000 in
set_option maxHeartbeats 4000000 in
theorem th_cameAnew (l : Launch) (D : va_G) (ad : Nat → Nat) (cy : Nat → ClassId) (hfl : l.stackTraces = false) {s : LWS} {p0 : Int32} {o : Int32 × LWS} (E : fh_cameAnew s p0 = some o) : CtH l D cy (LW ad cy) yL_cameAnew cL_cameAnew 4 [(0, 9, 12, 19)] 10 192 1 6 [.ref (ad 0), .int p0, .ref (ad 54)] s o.1 o.2 := by
  refine sH (own := RL) rfl rfl (Nat.le_of_ble_eq_true rfl) (fun X O hT hN hret => ?_)
  show G l D X 4 (LW ad cy) 0 0 s 0 [(0, .ref (ad 0)), (1, .int p0), (2, .ref (ad 54))] []
  unfold fh_cameAnew at E
  obtain ⟨z, c1, ex, E⟩ := hcatch_of E
  refine g_aload_n (pc' := 1) O ⟨dL_cameAnew_0, rfl⟩ (q := 2) rfl rfl ?_
  refine g_iconst (pc' := 2) O ⟨dL_cameAnew_1, rfl⟩ (v := (0 : Int32)) rfl ?_
  refine g_aload_n (pc' := 3) O ⟨dL_cameAnew_2, rfl⟩ (q := 0) rfl rfl ?_
  refine g_iload_n (pc' := 4) O ⟨dL_cameAnew_3, rfl⟩ (q := 1) rfl rfl ?_
  refine g_UXi (pc' := 7) O ⟨dL_cameAnew_4, rfl⟩ (y := yX10_cameAnew) (As := [.int p0]) (st := [.int (0 : Int32), .ref (ad 54)]) (subC ad cy s) (t_X10_cameAnew l D ad cy hfl (h := s.1) c1) kw_948 kw_60 kw_945 kw_946 kw_947 rfl (wL_0 ad cy s) hd_X10_cameAnew ⟨Nat.le_of_ble_eq_true rfl, Nat.le_of_ble_eq_true rfl⟩ ⟨Nat.le_of_ble_eq_true rfl, Nat.le_of_ble_eq_true rfl⟩ rfl (Nat.le_of_ble_eq_true rfl) (fun E1 c q => ?_) (fun a q => ?_)
  · replace E := ex E1 c q
    rcases Classical.em (E1 = "java/lang/IndexOutOfBoundsException") with e1 | e1
    · subst e1
      replace E := ite_t E rfl
      cases E
      refine g_catch (pre := []) (suf := []) (z := ⟨0, 9, 12, 19⟩) O hN hT (fun _ h => absurd h List.not_mem_nil) rfl (by decide) kw_636 kw_652 (fun q9 => ?_)
      refine g_astore_n (pc' := 13) O ⟨dL_cameAnew_12, rfl⟩ (lv' := [(3, .ref q9), (0, .ref (ad 0)), (1, .int p0), (2, .ref (ad 54))]) rfl (by decide) rfl ?_
      refine g_iconst (pc' := 14) O ⟨dL_cameAnew_13, rfl⟩ (v := (1 : Int32)) rfl ?_
      exact hret _ _ _ _ _ (Nat.le_of_ble_eq_true rfl) (Nat.le_of_ble_eq_true rfl) ⟨dL_cameAnew_14, rfl⟩
    · replace E := ite_f E e1
      cases E
  · replace E := E a q
    cases E
    refine g_i2l (pc' := 8) O ⟨dL_cameAnew_7, rfl⟩ ?_
    refine g_last (pc' := 9) O ⟨dL_cameAnew_8, rfl⟩ (wL_54 ad cy _) (vL_54 ad cy _ _) (b := some ()) (o := ()) rfl (fun _ => ?_)
    refine g_goto (pc' := 12) O ⟨dL_cameAnew_9, rfl⟩ (tgt := 15) (by decide) ?_
    refine g_iconst (pc' := 16) O ⟨dL_cameAnew_15, rfl⟩ (v := (0 : Int32)) rfl ?_
    exact hret _ _ _ _ _ (Nat.le_of_ble_eq_true rfl) (Nat.le_of_ble_eq_true rfl) ⟨dL_cameAnew_16, rfl⟩
set_option maxRecDepth 100000 in
set_option maxHeartbeats 4000000 in
theorem th_bad (l : Launch) (D : va_G) (ad : Nat → Nat) (cy : Nat → ClassId) (hfl : l.stackTraces = false) {s : LWS} {p0 : Int32} {p1 : Int32} {o : Int32 × LWS} (E : fh_bad s p0 p1 = some o) : CtH l D cy (LW ad cy) yL_bad cL_bad 5 [(0, 10, 13, 19), (0, 10, 17, 13)] 10 193 2 12 [.ref (ad 0), .int p0, .int p1, .ref (ad 54)] s o.1 o.2 := by
  refine sH (own := RL) rfl rfl (Nat.le_of_ble_eq_true rfl) (fun X O hT hN hret => ?_)
  show G l D X 5 (LW ad cy) 0 0 s 0 [(0, .ref (ad 0)), (1, .int p0), (2, .int p1), (3, .ref (ad 54))] []
  unfold fh_bad at E
  obtain ⟨z, c1, ex, E⟩ := hcatch_of E
  refine g_aload_n (pc' := 1) O ⟨dL_bad_0, rfl⟩ (q := 3) rfl rfl ?_
  refine g_iconst (pc' := 2) O ⟨dL_bad_1, rfl⟩ (v := (0 : Int32)) rfl ?_
  refine g_aload_n (pc' := 3) O ⟨dL_bad_2, rfl⟩ (q := 0) rfl rfl ?_
  refine g_iload_n (pc' := 4) O ⟨dL_bad_3, rfl⟩ (q := 1) rfl rfl ?_
  refine g_iload_n (pc' := 5) O ⟨dL_bad_4, rfl⟩ (q := 2) rfl rfl ?_
  refine g_UXi (pc' := 8) O ⟨dL_bad_5, rfl⟩ (y := yX10_bad) (As := [.int p0, .int p1]) (st := [.int (0 : Int32), .ref (ad 54)]) (subC ad cy s) (t_X10_bad l D ad cy hfl (h := s.1) c1) kw_959 kw_60 kw_956 kw_957 kw_958 rfl (wL_0 ad cy s) hd_X10_bad ⟨Nat.le_of_ble_eq_true rfl, Nat.le_of_ble_eq_true rfl⟩ ⟨Nat.le_of_ble_eq_true rfl, Nat.le_of_ble_eq_true rfl⟩ rfl (Nat.le_of_ble_eq_true rfl) (fun E1 c q => ?_) (fun a q => ?_)
  · replace E := ex E1 c q
    rcases Classical.em (E1 = "java/lang/IndexOutOfBoundsException") with e1 | e1
    · subst e1
      replace E := ite_t E rfl
      cases E
      refine g_catch (pre := []) (suf := [⟨0, 10, 17, 13⟩]) (z := ⟨0, 10, 13, 19⟩) O hN hT (fun _ h => absurd h List.not_mem_nil) rfl (by decide) kw_636 kw_652 (fun q9 => ?_)
      refine g_astore (pc' := 15) O ⟨dL_bad_13, rfl⟩ (lv' := [(4, .ref q9), (0, .ref (ad 0)), (1, .int p0), (2, .int p1), (3, .ref (ad 54))]) (by decide) rfl ?_
      refine g_iconst (pc' := 16) O ⟨dL_bad_15, rfl⟩ (v := (1 : Int32)) rfl ?_
      exact hret _ _ _ _ _ (Nat.le_of_ble_eq_true rfl) (Nat.le_of_ble_eq_true rfl) ⟨dL_bad_16, rfl⟩
    · replace E := ite_f E e1
      rcases Classical.em (E1 = "java/lang/IllegalArgumentException") with e1 | e1
      · subst e1
        replace E := ite_t E rfl
        cases E
        refine g_catch (pre := [⟨0, 10, 13, 19⟩]) (suf := []) (z := ⟨0, 10, 17, 13⟩) O hN hT (List.forall_mem_cons.mpr ⟨⟨by decide, _, kw_636, (by decide : ("java/lang/IllegalArgumentException", "java/lang/IndexOutOfBoundsException") ∈ NCP)⟩, fun _ h => absurd h List.not_mem_nil⟩) rfl (by decide) kw_553 kw_560 (fun q9 => ?_)
        refine g_astore (pc' := 19) O ⟨dL_bad_17, rfl⟩ (lv' := [(4, .ref q9), (0, .ref (ad 0)), (1, .int p0), (2, .int p1), (3, .ref (ad 54))]) (by decide) rfl ?_
        refine g_iconst (pc' := 20) O ⟨dL_bad_19, rfl⟩ (v := (2 : Int32)) rfl ?_
        exact hret _ _ _ _ _ (Nat.le_of_ble_eq_true rfl) (Nat.le_of_ble_eq_true rfl) ⟨dL_bad_20, rfl⟩
      · replace E := ite_f E e1
        cases E
  · replace E := E a q
    cases E
    refine g_i2l (pc' := 9) O ⟨dL_bad_8, rfl⟩ ?_
    refine g_last (pc' := 10) O ⟨dL_bad_9, rfl⟩ (wL_54 ad cy _) (vL_54 ad cy _ _) (b := some ()) (o := ()) rfl (fun _ => ?_)
    refine g_goto (pc' := 13) O ⟨dL_bad_10, rfl⟩ (tgt := 21) (by decide) ?_
    refine g_iconst (pc' := 22) O ⟨dL_bad_21, rfl⟩ (v := (0 : Int32)) rfl ?_
    exact hret _ _ _ _ _ (Nat.le_of_ble_eq_true rfl) (Nat.le_of_ble_eq_true rfl) ⟨dL_bad_22, rfl⟩
set_option maxRecDepth 100000 in
set_option maxHeartbeats 4000000 in
theorem th_tells (l : Launch) (D : va_G) (ad : Nat → Nat) (cy : Nat → ClassId) (hfl : l.stackTraces = false) {s : LWS} {p0 : Int32} {p1 : Int32} {o : Int32 × LWS} (E : fh_tells s p0 p1 = some o) : CtH l D cy (LW ad cy) yL_tells cL_tells 5 [(0, 9, 12, 19), (0, 9, 16, 13)] 10 193 2 12 [.ref (ad 0), .int p0, .int p1, .ref (ad 54)] s o.1 o.2 := by
  refine sH (own := RL) rfl rfl (Nat.le_of_ble_eq_true rfl) (fun X O hT hN hret => ?_)
  show G l D X 5 (LW ad cy) 0 0 s 0 [(0, .ref (ad 0)), (1, .int p0), (2, .int p1), (3, .ref (ad 54))] []
  unfold fh_tells at E
  obtain ⟨z, c1, ex, E⟩ := hcatch_of E
  refine g_aload_n (pc' := 1) O ⟨dL_tells_0, rfl⟩ (q := 3) rfl rfl ?_
  refine g_iconst (pc' := 2) O ⟨dL_tells_1, rfl⟩ (v := (0 : Int32)) rfl ?_
  refine g_aload_n (pc' := 3) O ⟨dL_tells_2, rfl⟩ (q := 0) rfl rfl ?_
  refine g_iload_n (pc' := 4) O ⟨dL_tells_3, rfl⟩ (q := 1) rfl rfl ?_
  refine g_iload_n (pc' := 5) O ⟨dL_tells_4, rfl⟩ (q := 2) rfl rfl ?_
  refine g_UXl (pc' := 8) O ⟨dL_tells_5, rfl⟩ (y := yX10_tells) (As := [.int p0, .int p1]) (st := [.int (0 : Int32), .ref (ad 54)]) (subC ad cy s) (t_X10_tells l D ad cy hfl (h := s.1) c1) kw_970 kw_60 kw_967 kw_968 kw_969 rfl (wL_0 ad cy s) hd_X10_tells ⟨Nat.le_of_ble_eq_true rfl, Nat.le_of_ble_eq_true rfl⟩ ⟨Nat.le_of_ble_eq_true rfl, Nat.le_of_ble_eq_true rfl⟩ rfl (Nat.le_of_ble_eq_true rfl) (fun E1 c q => ?_) (fun a q => ?_)
  · replace E := ex E1 c q
    rcases Classical.em (E1 = "java/lang/IndexOutOfBoundsException") with e1 | e1
    · subst e1
      replace E := ite_t E rfl
      cases E
      refine g_catch (pre := []) (suf := [⟨0, 9, 16, 13⟩]) (z := ⟨0, 9, 12, 19⟩) O hN hT (fun _ h => absurd h List.not_mem_nil) rfl (by decide) kw_636 kw_652 (fun q9 => ?_)
      refine g_astore (pc' := 14) O ⟨dL_tells_12, rfl⟩ (lv' := [(4, .ref q9), (0, .ref (ad 0)), (1, .int p0), (2, .int p1), (3, .ref (ad 54))]) (by decide) rfl ?_
      refine g_iconst (pc' := 15) O ⟨dL_tells_14, rfl⟩ (v := (1 : Int32)) rfl ?_
      exact hret _ _ _ _ _ (Nat.le_of_ble_eq_true rfl) (Nat.le_of_ble_eq_true rfl) ⟨dL_tells_15, rfl⟩
    · replace E := ite_f E e1
      rcases Classical.em (E1 = "java/lang/IllegalArgumentException") with e1 | e1
      · subst e1
        replace E := ite_t E rfl
        cases E
        refine g_catch (pre := [⟨0, 9, 12, 19⟩]) (suf := []) (z := ⟨0, 9, 16, 13⟩) O hN hT (List.forall_mem_cons.mpr ⟨⟨by decide, _, kw_636, (by decide : ("java/lang/IllegalArgumentException", "java/lang/IndexOutOfBoundsException") ∈ NCP)⟩, fun _ h => absurd h List.not_mem_nil⟩) rfl (by decide) kw_553 kw_560 (fun q9 => ?_)
        refine g_astore (pc' := 18) O ⟨dL_tells_16, rfl⟩ (lv' := [(4, .ref q9), (0, .ref (ad 0)), (1, .int p0), (2, .int p1), (3, .ref (ad 54))]) (by decide) rfl ?_
        refine g_iconst (pc' := 19) O ⟨dL_tells_18, rfl⟩ (v := (2 : Int32)) rfl ?_
        exact hret _ _ _ _ _ (Nat.le_of_ble_eq_true rfl) (Nat.le_of_ble_eq_true rfl) ⟨dL_tells_19, rfl⟩
      · replace E := ite_f E e1
        cases E
  · replace E := E a q
    cases E
    refine g_last (pc' := 9) O ⟨dL_tells_8, rfl⟩ (wL_54 ad cy _) (vL_54 ad cy _ _) (b := some ()) (o := ()) rfl (fun _ => ?_)
    refine g_goto (pc' := 12) O ⟨dL_tells_9, rfl⟩ (tgt := 20) (by decide) ?_
    refine g_iconst (pc' := 21) O ⟨dL_tells_20, rfl⟩ (v := (0 : Int32)) rfl ?_
    exact hret _ _ _ _ _ (Nat.le_of_ble_eq_true rfl) (Nat.le_of_ble_eq_true rfl) ⟨dL_tells_21, rfl⟩
set_option maxRecDepth 100000 in
set_option maxHeartbeats 4000000 in
theorem th_far (l : Launch) (D : va_G) (ad : Nat → Nat) (cy : Nat → ClassId) (hfl : l.stackTraces = false) {s : LWS} {p0 : Int32} {p1 : Int32} {o : Int32 × LWS} (E : fh_far s p0 p1 = some o) : CtH l D cy (LW ad cy) yL_far cL_far 5 [(0, 10, 13, 13)] 10 195 2 12 [.ref (ad 0), .int p0, .int p1, .ref (ad 54)] s o.1 o.2 := by
  refine sH (own := RL) rfl rfl (Nat.le_of_ble_eq_true rfl) (fun X O hT hN hret => ?_)
  show G l D X 5 (LW ad cy) 0 0 s 0 [(0, .ref (ad 0)), (1, .int p0), (2, .int p1), (3, .ref (ad 54))] []
  unfold fh_far at E
  obtain ⟨z, c1, ex, E⟩ := hcatch_of E
  refine g_aload_n (pc' := 1) O ⟨dL_far_0, rfl⟩ (q := 3) rfl rfl ?_
  refine g_iconst (pc' := 2) O ⟨dL_far_1, rfl⟩ (v := (0 : Int32)) rfl ?_
  refine g_aload_n (pc' := 3) O ⟨dL_far_2, rfl⟩ (q := 0) rfl rfl ?_
  refine g_iload_n (pc' := 4) O ⟨dL_far_3, rfl⟩ (q := 1) rfl rfl ?_
  refine g_iload_n (pc' := 5) O ⟨dL_far_4, rfl⟩ (q := 2) rfl rfl ?_
  refine g_UXi (pc' := 8) O ⟨dL_far_5, rfl⟩ (y := yX10_far) (As := [.int p0, .int p1]) (st := [.int (0 : Int32), .ref (ad 54)]) (subC ad cy s) (t_X10_far l D ad cy hfl (h := s.1) c1) kw_978 kw_60 kw_975 kw_976 kw_977 rfl (wL_0 ad cy s) hd_X10_far ⟨Nat.le_of_ble_eq_true rfl, Nat.le_of_ble_eq_true rfl⟩ ⟨Nat.le_of_ble_eq_true rfl, Nat.le_of_ble_eq_true rfl⟩ rfl (Nat.le_of_ble_eq_true rfl) (fun E1 c q => ?_) (fun a q => ?_)
  · replace E := ex E1 c q
    rcases Classical.em (E1 = "java/lang/IllegalArgumentException") with e1 | e1
    · subst e1
      replace E := ite_t E rfl
      cases E
      refine g_catch (pre := []) (suf := []) (z := ⟨0, 10, 13, 13⟩) O hN hT (fun _ h => absurd h List.not_mem_nil) rfl (by decide) kw_553 kw_560 (fun q9 => ?_)
      refine g_astore (pc' := 15) O ⟨dL_far_13, rfl⟩ (lv' := [(4, .ref q9), (0, .ref (ad 0)), (1, .int p0), (2, .int p1), (3, .ref (ad 54))]) (by decide) rfl ?_
      refine g_iconst (pc' := 16) O ⟨dL_far_15, rfl⟩ (v := (1 : Int32)) rfl ?_
      exact hret _ _ _ _ _ (Nat.le_of_ble_eq_true rfl) (Nat.le_of_ble_eq_true rfl) ⟨dL_far_16, rfl⟩
    · replace E := ite_f E e1
      cases E
  · replace E := E a q
    cases E
    refine g_i2l (pc' := 9) O ⟨dL_far_8, rfl⟩ ?_
    refine g_last (pc' := 10) O ⟨dL_far_9, rfl⟩ (wL_54 ad cy _) (vL_54 ad cy _ _) (b := some ()) (o := ()) rfl (fun _ => ?_)
    refine g_goto (pc' := 13) O ⟨dL_far_10, rfl⟩ (tgt := 17) (by decide) ?_
    refine g_iconst (pc' := 18) O ⟨dL_far_17, rfl⟩ (v := (0 : Int32)) rfl ?_
    exact hret _ _ _ _ _ (Nat.le_of_ble_eq_true rfl) (Nat.le_of_ble_eq_true rfl) ⟨dL_far_18, rfl⟩
set_option maxRecDepth 100000 in
set_option maxHeartbeats 4000000 in
theorem th_step (l : Launch) (D : va_G) (ad : Nat → Nat) (cy : Nat → ClassId) (hfl : l.stackTraces = false) {s : LWS} {p0 : Int32} {p1 : Int32} {o : Int32 × LWS} (E : fh_step s p0 p1 = some o) : CtH l D cy (LW ad cy) yL_step cL_step 5 [(0, 10, 13, 13)] 10 195 2 12 [.ref (ad 0), .int p0, .int p1, .ref (ad 54)] s o.1 o.2 := by
  refine sH (own := RL) rfl rfl (Nat.le_of_ble_eq_true rfl) (fun X O hT hN hret => ?_)
  show G l D X 5 (LW ad cy) 0 0 s 0 [(0, .ref (ad 0)), (1, .int p0), (2, .int p1), (3, .ref (ad 54))] []
  unfold fh_step at E
  obtain ⟨z, c1, ex, E⟩ := hcatch_of E
  refine g_aload_n (pc' := 1) O ⟨dL_step_0, rfl⟩ (q := 3) rfl rfl ?_
  refine g_iconst (pc' := 2) O ⟨dL_step_1, rfl⟩ (v := (0 : Int32)) rfl ?_
  refine g_aload_n (pc' := 3) O ⟨dL_step_2, rfl⟩ (q := 0) rfl rfl ?_
  refine g_iload_n (pc' := 4) O ⟨dL_step_3, rfl⟩ (q := 1) rfl rfl ?_
  refine g_iload_n (pc' := 5) O ⟨dL_step_4, rfl⟩ (q := 2) rfl rfl ?_
  refine g_UXi (pc' := 8) O ⟨dL_step_5, rfl⟩ (y := yX10_step) (As := [.int p0, .int p1]) (st := [.int (0 : Int32), .ref (ad 54)]) (subC ad cy s) (t_X10_step l D ad cy hfl (h := s.1) c1) kw_1032 kw_60 kw_1029 kw_1030 kw_1031 rfl (wL_0 ad cy s) hd_X10_step ⟨Nat.le_of_ble_eq_true rfl, Nat.le_of_ble_eq_true rfl⟩ ⟨Nat.le_of_ble_eq_true rfl, Nat.le_of_ble_eq_true rfl⟩ rfl (Nat.le_of_ble_eq_true rfl) (fun E1 c q => ?_) (fun a q => ?_)
  · replace E := ex E1 c q
    rcases Classical.em (E1 = "java/lang/IllegalArgumentException") with e1 | e1
    · subst e1
      replace E := ite_t E rfl
      cases E
      refine g_catch (pre := []) (suf := []) (z := ⟨0, 10, 13, 13⟩) O hN hT (fun _ h => absurd h List.not_mem_nil) rfl (by decide) kw_553 kw_560 (fun q9 => ?_)
      refine g_astore (pc' := 15) O ⟨dL_step_13, rfl⟩ (lv' := [(4, .ref q9), (0, .ref (ad 0)), (1, .int p0), (2, .int p1), (3, .ref (ad 54))]) (by decide) rfl ?_
      refine g_iconst (pc' := 16) O ⟨dL_step_15, rfl⟩ (v := (1 : Int32)) rfl ?_
      exact hret _ _ _ _ _ (Nat.le_of_ble_eq_true rfl) (Nat.le_of_ble_eq_true rfl) ⟨dL_step_16, rfl⟩
    · replace E := ite_f E e1
      cases E
  · replace E := E a q
    cases E
    refine g_i2l (pc' := 9) O ⟨dL_step_8, rfl⟩ ?_
    refine g_last (pc' := 10) O ⟨dL_step_9, rfl⟩ (wL_54 ad cy _) (vL_54 ad cy _ _) (b := some ()) (o := ()) rfl (fun _ => ?_)
    refine g_goto (pc' := 13) O ⟨dL_step_10, rfl⟩ (tgt := 17) (by decide) ?_
    refine g_iconst (pc' := 18) O ⟨dL_step_17, rfl⟩ (v := (0 : Int32)) rfl ?_
    exact hret _ _ _ _ _ (Nat.le_of_ble_eq_true rfl) (Nat.le_of_ble_eq_true rfl) ⟨dL_step_18, rfl⟩
set_option maxRecDepth 100000 in
set_option maxHeartbeats 4000000 in
theorem th_manyFar (l : Launch) (D : va_G) (ad : Nat → Nat) (cy : Nat → ClassId) (hfl : l.stackTraces = false) {s : LWS} {p0 : Int32} {p1 : Int32} {o : Int32 × LWS} (E : fh_manyFar s p0 p1 = some o) : CtH l D cy (LW ad cy) yL_manyFar cL_manyFar 5 [(0, 10, 13, 13)] 10 192 2 12 [.ref (ad 0), .int p0, .int p1, .ref (ad 54)] s o.1 o.2 := by
  refine sH (own := RL) rfl rfl (Nat.le_of_ble_eq_true rfl) (fun X O hT hN hret => ?_)
  show G l D X 5 (LW ad cy) 0 0 s 0 [(0, .ref (ad 0)), (1, .int p0), (2, .int p1), (3, .ref (ad 54))] []
  unfold fh_manyFar at E
  obtain ⟨z, c1, ex, E⟩ := hcatch_of E
  refine g_aload_n (pc' := 1) O ⟨dL_manyFar_0, rfl⟩ (q := 3) rfl rfl ?_
  refine g_iconst (pc' := 2) O ⟨dL_manyFar_1, rfl⟩ (v := (0 : Int32)) rfl ?_
  refine g_aload_n (pc' := 3) O ⟨dL_manyFar_2, rfl⟩ (q := 0) rfl rfl ?_
  refine g_iload_n (pc' := 4) O ⟨dL_manyFar_3, rfl⟩ (q := 1) rfl rfl ?_
  refine g_iload_n (pc' := 5) O ⟨dL_manyFar_4, rfl⟩ (q := 2) rfl rfl ?_
  refine g_UXi (pc' := 8) O ⟨dL_manyFar_5, rfl⟩ (y := yX10_manyFar) (As := [.int p0, .int p1]) (st := [.int (0 : Int32), .ref (ad 54)]) (subC ad cy s) (t_X10_manyFar l D ad cy hfl (h := s.1) c1) kw_1044 kw_60 kw_1041 kw_1042 kw_1043 rfl (wL_0 ad cy s) hd_X10_manyFar ⟨Nat.le_of_ble_eq_true rfl, Nat.le_of_ble_eq_true rfl⟩ ⟨Nat.le_of_ble_eq_true rfl, Nat.le_of_ble_eq_true rfl⟩ rfl (Nat.le_of_ble_eq_true rfl) (fun E1 c q => ?_) (fun a q => ?_)
  · replace E := ex E1 c q
    rcases Classical.em (E1 = "java/lang/IllegalArgumentException") with e1 | e1
    · subst e1
      replace E := ite_t E rfl
      cases E
      refine g_catch (pre := []) (suf := []) (z := ⟨0, 10, 13, 13⟩) O hN hT (fun _ h => absurd h List.not_mem_nil) rfl (by decide) kw_553 kw_560 (fun q9 => ?_)
      refine g_astore (pc' := 15) O ⟨dL_manyFar_13, rfl⟩ (lv' := [(4, .ref q9), (0, .ref (ad 0)), (1, .int p0), (2, .int p1), (3, .ref (ad 54))]) (by decide) rfl ?_
      refine g_iconst (pc' := 16) O ⟨dL_manyFar_15, rfl⟩ (v := (1 : Int32)) rfl ?_
      exact hret _ _ _ _ _ (Nat.le_of_ble_eq_true rfl) (Nat.le_of_ble_eq_true rfl) ⟨dL_manyFar_16, rfl⟩
    · replace E := ite_f E e1
      cases E
  · replace E := E a q
    cases E
    refine g_i2l (pc' := 9) O ⟨dL_manyFar_8, rfl⟩ ?_
    refine g_last (pc' := 10) O ⟨dL_manyFar_9, rfl⟩ (wL_54 ad cy _) (vL_54 ad cy _ _) (b := some ()) (o := ()) rfl (fun _ => ?_)
    refine g_goto (pc' := 13) O ⟨dL_manyFar_10, rfl⟩ (tgt := 17) (by decide) ?_
    refine g_iconst (pc' := 18) O ⟨dL_manyFar_17, rfl⟩ (v := (0 : Int32)) rfl ?_
    exact hret _ _ _ _ _ (Nat.le_of_ble_eq_true rfl) (Nat.le_of_ble_eq_true rfl) ⟨dL_manyFar_18, rfl⟩
set_option maxRecDepth 100000 in
set_option maxHeartbeats 4000000 in
theorem th_ask (l : Launch) (D : va_G) (ad : Nat → Nat) (cy : Nat → ClassId) (hfl : l.stackTraces = false) {s : LWS} {p0 : Int32} {p1 : Int32} {o : Int32 × LWS} (E : fh_ask s p0 p1 = some o) : CtH l D cy (LW ad cy) yL_ask cL_ask 5 [(0, 17, 20, 19), (0, 17, 24, 13)] 11 215 3 18 [.ref (ad 0), .int p0, .int p1, .ref (ad 54)] s o.1 o.2 := by
  refine sH (own := RL) rfl rfl (Nat.le_of_ble_eq_true rfl) (fun X O hT hN hret => ?_)
  show G l D X 5 (LW ad cy) 0 0 s 0 [(0, .ref (ad 0)), (1, .int p0), (2, .int p1), (3, .ref (ad 54))] []
  unfold fh_ask at E
  obtain ⟨z, c1, ex, E⟩ := hcatch_of E
  refine g_aload_n (pc' := 1) O ⟨dL_ask_0, rfl⟩ (q := 3) rfl rfl ?_
  refine g_iconst (pc' := 2) O ⟨dL_ask_1, rfl⟩ (v := (0 : Int32)) rfl ?_
  refine g_aload_n (pc' := 3) O ⟨dL_ask_2, rfl⟩ (q := 0) rfl rfl ?_
  refine g_iload_n (pc' := 4) O ⟨dL_ask_3, rfl⟩ (q := 1) rfl rfl ?_
  refine g_iload_n (pc' := 5) O ⟨dL_ask_4, rfl⟩ (q := 2) rfl rfl ?_
  refine g_UXi (pc' := 8) O ⟨dL_ask_5, rfl⟩ (y := yX10_ask) (As := [.int p0, .int p1]) (st := [.int (0 : Int32), .ref (ad 54)]) (subC ad cy s) (t_X10_ask l D ad cy hfl (h := s.1) c1) kw_1056 kw_60 kw_1053 kw_1054 kw_1055 rfl (wL_0 ad cy s) hd_X10_ask ⟨Nat.le_of_ble_eq_true rfl, Nat.le_of_ble_eq_true rfl⟩ ⟨Nat.le_of_ble_eq_true rfl, Nat.le_of_ble_eq_true rfl⟩ rfl (Nat.le_of_ble_eq_true rfl) (fun E1 c q => ?_) (fun a q => ?_)
  · replace E := ex E1 c q
    rcases Classical.em (E1 = "java/lang/IndexOutOfBoundsException") with e1 | e1
    · subst e1
      replace E := ite_t E rfl
      cases E
      refine g_catch (pre := []) (suf := [⟨0, 17, 24, 13⟩]) (z := ⟨0, 17, 20, 19⟩) O hN hT (fun _ h => absurd h List.not_mem_nil) rfl (by decide) kw_636 kw_652 (fun q9 => ?_)
      refine g_astore (pc' := 22) O ⟨dL_ask_20, rfl⟩ (lv' := [(4, .ref q9), (0, .ref (ad 0)), (1, .int p0), (2, .int p1), (3, .ref (ad 54))]) (by decide) rfl ?_
      refine g_iconst (pc' := 23) O ⟨dL_ask_22, rfl⟩ (v := (1 : Int32)) rfl ?_
      exact hret _ _ _ _ _ (Nat.le_of_ble_eq_true rfl) (Nat.le_of_ble_eq_true rfl) ⟨dL_ask_23, rfl⟩
    · replace E := ite_f E e1
      rcases Classical.em (E1 = "java/lang/IllegalArgumentException") with e1 | e1
      · subst e1
        replace E := ite_t E rfl
        cases E
        refine g_catch (pre := [⟨0, 17, 20, 19⟩]) (suf := []) (z := ⟨0, 17, 24, 13⟩) O hN hT (List.forall_mem_cons.mpr ⟨⟨by decide, _, kw_636, (by decide : ("java/lang/IllegalArgumentException", "java/lang/IndexOutOfBoundsException") ∈ NCP)⟩, fun _ h => absurd h List.not_mem_nil⟩) rfl (by decide) kw_553 kw_560 (fun q9 => ?_)
        refine g_astore (pc' := 26) O ⟨dL_ask_24, rfl⟩ (lv' := [(4, .ref q9), (0, .ref (ad 0)), (1, .int p0), (2, .int p1), (3, .ref (ad 54))]) (by decide) rfl ?_
        refine g_iconst (pc' := 27) O ⟨dL_ask_26, rfl⟩ (v := (2 : Int32)) rfl ?_
        exact hret _ _ _ _ _ (Nat.le_of_ble_eq_true rfl) (Nat.le_of_ble_eq_true rfl) ⟨dL_ask_27, rfl⟩
      · replace E := ite_f E e1
        cases E
  · replace E := E a q
    refine g_if_eq (pc' := 11) O ⟨dL_ask_8, rfl⟩ (a := if a.1 = 0 then some () else none) (b := if a.1 = 0 then none else some ()) (o := ()) (by by_cases e : a.1 = 0 <;> simp [e]) (tgt := 15) (by decide) (fun e => ?_) (fun e => ?_)
    · have e0 : a.1 = 0 := by by_cases e1 : a.1 = 0 <;> simp_all
      rw [if_pos e0] at E
      cases E
      refine g_lconst (pc' := 16) O ⟨dL_ask_15, rfl⟩ (v := (0 : Int64)) rfl ?_
      refine g_last (pc' := 17) O ⟨dL_ask_16, rfl⟩ (wL_54 ad cy _) (vL_54 ad cy _ _) (b := some ()) (o := ()) rfl (fun _ => ?_)
      refine g_goto (pc' := 20) O ⟨dL_ask_17, rfl⟩ (tgt := 28) (by decide) ?_
      refine g_iconst (pc' := 29) O ⟨dL_ask_28, rfl⟩ (v := (0 : Int32)) rfl ?_
      exact hret _ _ _ _ _ (Nat.le_of_ble_eq_true rfl) (Nat.le_of_ble_eq_true rfl) ⟨dL_ask_29, rfl⟩
    · have e0 : ¬ a.1 = 0 := by by_cases e1 : a.1 = 0 <;> simp_all
      rw [if_neg e0] at E
      cases E
      refine g_lconst (pc' := 12) O ⟨dL_ask_11, rfl⟩ (v := (1 : Int64)) rfl ?_
      refine g_goto (pc' := 15) O ⟨dL_ask_12, rfl⟩ (tgt := 16) (by decide) ?_
      refine g_last (pc' := 17) O ⟨dL_ask_16, rfl⟩ (wL_54 ad cy _) (vL_54 ad cy _ _) (b := some ()) (o := ()) rfl (fun _ => ?_)
      refine g_goto (pc' := 20) O ⟨dL_ask_17, rfl⟩ (tgt := 28) (by decide) ?_
      refine g_iconst (pc' := 29) O ⟨dL_ask_28, rfl⟩ (v := (0 : Int32)) rfl ?_
      exact hret _ _ _ _ _ (Nat.le_of_ble_eq_true rfl) (Nat.le_of_ble_eq_true rfl) ⟨dL_ask_29, rfl⟩
