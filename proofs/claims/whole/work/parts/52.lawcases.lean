/-! THE LAW'S CASES -/
theorem wL_35 (ad : Nat → Nat) (cy : Nat → ClassId) (s : LWS) : (LW ad cy s)[35]? = some (ad 35, .inr (10, [.int (s.2.1.1 0 0), .int (s.2.1.1 0 1), .int (s.2.1.1 0 2), .ref ((fun k => ad (35 + k)) 1), .ref ((fun k => ad (35 + k)) 2), .ref ((fun k => ad (35 + k)) 3), .ref ((fun k => ad (35 + k)) 4), .int (s.2.1.1 0 7), .ref ((fun k => ad (35 + k)) 5), .ref ((fun k => ad (35 + k)) 6), .ref ((fun k => ad (35 + k)) 7), .int (s.2.1.1 0 11), .ref ((fun k => ad (35 + k)) 8), .ref ((fun k => ad (35 + k)) 9), .int (s.2.1.1 0 14), .ref ((fun k => ad (35 + k)) 10), .ref ((fun k => ad (35 + k)) 11), .ref ((fun k => ad (35 + k)) 12), .ref ((fun k => ad (35 + k)) 13), .int (s.2.1.1 0 19), .ref ((fun k => ad (35 + k)) 14), .ref ((fun k => ad (35 + k)) 15), .ref ((fun k => ad (35 + k)) 16), .int (s.2.1.1 0 23), .ref ((fun k => ad (35 + k)) 17), .ref ((fun k => ad (35 + k)) 18)])) := rfl
def SX (X : Cx) (b L : Nat) (xs : Nat → Int32) : Prop := match X with
  | (_, _, _, s, _, _, _, _, _, _, A) => va_X b L xs s s.heap ∧ b < s.heap.size ∧ ¬ A b
theorem g_sld {l : Launch} {D : va_G} {cy : Nat → ClassId} {S : Type} {wf : S → va_W} {X : Cx} {cc : ByteArray} {own : String} {nL : Nat} {R : Room} {k n : Nat} {h : S} {pc pc' : Nat} {lv : List (Nat × Value)} {st : List Value} {b L : Nat} {xs : Nat → Int32} {i : Int32} {β : Type} {bb : Option β} {o : β} (O : Ok l D cy X cc own nL R) (d : Dc cc pc .iaload 1 pc') (hX : SX X b L xs) (E : ck i L bb = some o) (kk : bb = some o → G l D X nL wf k n h pc' lv (.int (xs i.toNatClampNeg) :: st)) : G l D X nL wf k n h pc lv (.int i :: .ref b :: st) := by
  obtain ⟨p, e, R', s, m, args, below, meth, c, Q, A⟩ := X
  obtain ⟨rfl, hx, hb, hml, hown, hts, hK, hA, hlk, hE⟩ := O
  obtain ⟨d, rfl⟩ := d
  intro H locs ls hP hD hS hl
  exact va_sld hx hb hX.1 hX.2.1 hX.2.2 hS (ck_of E).1 d (kk (ck_of E).2 H locs ls hP hD hS hl)
theorem g_slen {l : Launch} {D : va_G} {cy : Nat → ClassId} {S : Type} {wf : S → va_W} {X : Cx} {cc : ByteArray} {own : String} {nL : Nat} {R : Room} {k n : Nat} {h : S} {pc pc' : Nat} {lv : List (Nat × Value)} {st : List Value} {b L : Nat} {xs : Nat → Int32} (O : Ok l D cy X cc own nL R) (d : Dc cc pc .arraylength 1 pc') (hX : SX X b L xs) (kk : G l D X nL wf k n h pc' lv (.int (nI L) :: st)) : G l D X nL wf k n h pc lv (.ref b :: st) := by
  obtain ⟨p, e, R', s, m, args, below, meth, c, Q, A⟩ := X
  obtain ⟨rfl, hx, hb, hml, hown, hts, hK, hA, hlk, hE⟩ := O
  obtain ⟨d, rfl⟩ := d
  intro H locs ls hP hD hS hl
  exact va_slen hx hb hX.1 hX.2.1 hX.2.2 hS d (kk H locs ls hP hD hS hl)
theorem g_widen {l : Launch} {D : va_G} {S : Type} {wf : S → va_W} {X : Cx} {nL k n k1 n1 : Nat} {h : S} {pc : Nat} {lv : List (Nat × Value)} {st : List Value} (h1 : k ≤ k1) (h2 : n ≤ n1) (kk : G l D X nL wf k1 n1 h pc lv st) : G l D X nL wf k n h pc lv st := by
  obtain ⟨p, e, R', s, m, args, below, meth, c, Q, A⟩ := X
  intro H locs ls hP hD hS hl
  exact W.widen h1 h2 (kk H locs ls hP hD hS hl)
def lc_0 (L : Nat) (xs : Nat → Int32) (i : Int32) (s : LWS) (kont : LWS → Option Unit) : Option Unit :=
  ck (i + (1 : Int32)) L (bd (fh_network s (xs (i + (1 : Int32)).toNatClampNeg)) (fun r_1 => ck (i + (1 : Int32)) L (bd (f_X11_network r_1.2.2.1 (xs (i + (1 : Int32)).toNatClampNeg)) (fun r_3 => nm (setM r_1.2 r_3.2) (fun s_5 => bd (f_X11_thrown s_5.2.1) (fun r_6 => nm (setM s_5 s_5.2.1) (fun s_8 => (if r_6 = r_1.1 then jn0 (fun k265 => (if r_1.1 = 0 then ck (0 : Int32) 1 ((if (lg_cmp (s_8.2.2 (0 : Int32).toNatClampNeg) (i2l r_3.1)) = 0 then k265 else none)) else k265)) (kont s_8) else none))))))))
def lc_1 (L : Nat) (xs : Nat → Int32) (i : Int32) (s : LWS) (kont : LWS → Option Unit) : Option Unit :=
  ck (i + (1 : Int32)) L (ck (i + (2 : Int32)) L (bd (fh_add s (xs (i + (1 : Int32)).toNatClampNeg) (xs (i + (2 : Int32)).toNatClampNeg)) (fun r_1 => ck (i + (1 : Int32)) L (ck (i + (2 : Int32)) L (bd (f_X11_add r_1.2.2.1 (xs (i + (1 : Int32)).toNatClampNeg) (xs (i + (2 : Int32)).toNatClampNeg)) (fun r_3 => nm (setM r_1.2 r_3.2) (fun s_5 => bd (f_X11_thrown s_5.2.1) (fun r_6 => nm (setM s_5 s_5.2.1) (fun s_8 => (if r_6 = r_1.1 then jn0 (fun k333 => (if r_1.1 = 0 then ck (0 : Int32) 1 ((if (lg_cmp (s_8.2.2 (0 : Int32).toNatClampNeg) (i2l r_3.1)) = 0 then k333 else none)) else k333)) (kont s_8) else none))))))))))
def lc_2 (L : Nat) (xs : Nat → Int32) (i : Int32) (s : LWS) (kont : LWS → Option Unit) : Option Unit :=
  bd (fh_take s) (fun r_1 => bd (f_X11_take r_1.2.2.1) (fun r_3 => nm (setM r_1.2 r_3.2) (fun s_5 => bd (f_X11_thrown s_5.2.1) (fun r_6 => nm (setM s_5 s_5.2.1) (fun s_8 => (if r_6 = r_1.1 then jn0 (fun k377 => (if r_1.1 = 0 then ck (0 : Int32) 1 ((if (lg_cmp (s_8.2.2 (0 : Int32).toNatClampNeg) (i2l r_3.1)) = 0 then k377 else none)) else k377)) (kont s_8) else none))))))
def lc_3 (L : Nat) (xs : Nat → Int32) (i : Int32) (s : LWS) (kont : LWS → Option Unit) : Option Unit :=
  ck (i + (1 : Int32)) L (bd (fh_make s (xs (i + (1 : Int32)).toNatClampNeg)) (fun r_1 => ck (i + (1 : Int32)) L (bd (f_X11_make r_1.2.2.1 (xs (i + (1 : Int32)).toNatClampNeg)) (fun r_3 => nm (setM r_1.2 r_3.2) (fun s_5 => bd (f_X11_thrown s_5.2.1) (fun r_6 => nm (setM s_5 s_5.2.1) (fun s_8 => (if r_6 = r_1.1 then jn0 (fun k433 => (if r_1.1 = 0 then ck (0 : Int32) 1 ((if (lg_cmp (s_8.2.2 (0 : Int32).toNatClampNeg) (i2l r_3.1)) = 0 then k433 else none)) else k433)) (kont s_8) else none))))))))
def lc_4 (L : Nat) (xs : Nat → Int32) (i : Int32) (s : LWS) (kont : LWS → Option Unit) : Option Unit :=
  bd (f_X10_mirror s.1) (fun r_1 => nm (setC s r_1) (fun s_3 => bd (f_X11_mirror s_3.2.1) (fun r_4 => nm (setM s_3 r_4) (fun s_6 => kont s_6))))
def lc_5 (L : Nat) (xs : Nat → Int32) (i : Int32) (s : LWS) (kont : LWS → Option Unit) : Option Unit :=
  bd (f_X10_untangle s.1) (fun r_1 => nm (setC s r_1.2) (fun s_3 => bd (f_X11_untangle s_3.2.1) (fun r_4 => nm (setM s_3 r_4.2) (fun s_6 => (if r_1.1 = r_4.1 then kont s_6 else none)))))
def lc_6 (L : Nat) (xs : Nat → Int32) (i : Int32) (s : LWS) (kont : LWS → Option Unit) : Option Unit :=
  bd (f_X10_prune s.1) (fun r_1 => nm (setC s r_1.2) (fun s_3 => bd (f_X11_prune s_3.2.1) (fun r_4 => nm (setM s_3 r_4.2) (fun s_6 => (if r_1.1 = r_4.1 then kont s_6 else none)))))
def lc_7 (L : Nat) (xs : Nat → Int32) (i : Int32) (s : LWS) (kont : LWS → Option Unit) : Option Unit :=
  ck (i + (1 : Int32)) L (bd (fh_told s (xs (i + (1 : Int32)).toNatClampNeg)) (fun r_1 => ck (i + (1 : Int32)) L (bd (f_X11_told r_1.2.2.1 (xs (i + (1 : Int32)).toNatClampNeg)) (fun r_3 => nm (setM r_1.2 r_3.2) (fun s_5 => bd (f_X11_thrown s_5.2.1) (fun r_6 => nm (setM s_5 s_5.2.1) (fun s_8 => (if r_6 = r_1.1 then jn0 (fun k526 => (if r_1.1 = 0 then ck (0 : Int32) 1 ((if (lg_cmp (s_8.2.2 (0 : Int32).toNatClampNeg) (i2l r_3.1)) = 0 then k526 else none)) else k526)) (kont s_8) else none))))))))
def lc_8 (L : Nat) (xs : Nat → Int32) (i : Int32) (s : LWS) (kont : LWS → Option Unit) : Option Unit :=
  ck (i + (1 : Int32)) L (ck (i + (2 : Int32)) L (bd (fh_comparator s (xs (i + (1 : Int32)).toNatClampNeg) (xs (i + (2 : Int32)).toNatClampNeg)) (fun r_1 => ck (i + (1 : Int32)) L (ck (i + (2 : Int32)) L (bd (f_X11_comparator r_1.2.2.1 (xs (i + (1 : Int32)).toNatClampNeg) (xs (i + (2 : Int32)).toNatClampNeg)) (fun r_3 => nm (setM r_1.2 r_3.2) (fun s_5 => bd (f_X11_thrown s_5.2.1) (fun r_6 => nm (setM s_5 s_5.2.1) (fun s_8 => (if r_6 = r_1.1 then jn0 (fun k594 => (if r_1.1 = 0 then ck (0 : Int32) 1 ((if (lg_cmp (s_8.2.2 (0 : Int32).toNatClampNeg) (i2l r_3.1)) = 0 then k594 else none)) else k594)) (kont s_8) else none))))))))))
def lc_9 (L : Nat) (xs : Nat → Int32) (i : Int32) (s : LWS) (kont : LWS → Option Unit) : Option Unit :=
  ck (i + (1 : Int32)) L (bd (fh_textAt s (xs (i + (1 : Int32)).toNatClampNeg)) (fun r_1 => ck (i + (1 : Int32)) L (bd (f_X11_textAt r_1.2.2.1 (xs (i + (1 : Int32)).toNatClampNeg)) (fun r_3 => nm (setM r_1.2 r_3.2) (fun s_5 => bd (f_X11_thrown s_5.2.1) (fun r_6 => nm (setM s_5 s_5.2.1) (fun s_8 => (if r_6 = r_1.1 then jn0 (fun k650 => (if r_1.1 = 0 then ck (0 : Int32) 1 ((if (lg_cmp (s_8.2.2 (0 : Int32).toNatClampNeg) (i2l r_3.1)) = 0 then k650 else none)) else k650)) (kont s_8) else none))))))))
def lc_10 (L : Nat) (xs : Nat → Int32) (i : Int32) (s : LWS) (kont : LWS → Option Unit) : Option Unit :=
  ck (i + (1 : Int32)) L (ck (i + (2 : Int32)) L (ck (i + (3 : Int32)) L (bd (fh_type s ((lshl (i2l (xs (i + (1 : Int32)).toNatClampNeg)) (32 : Int32)) ||| ((i2l (xs (i + (2 : Int32)).toNatClampNeg)) &&& (4294967295 : Int64))) (xs (i + (3 : Int32)).toNatClampNeg)) (fun r_1 => ck (i + (1 : Int32)) L (ck (i + (2 : Int32)) L (ck (i + (3 : Int32)) L (bd (f_X11_type r_1.2.2.1 ((lshl (i2l (xs (i + (1 : Int32)).toNatClampNeg)) (32 : Int32)) ||| ((i2l (xs (i + (2 : Int32)).toNatClampNeg)) &&& (4294967295 : Int64))) (xs (i + (3 : Int32)).toNatClampNeg)) (fun r_3 => nm (setM r_1.2 r_3.2) (fun s_5 => bd (f_X11_thrown s_5.2.1) (fun r_6 => nm (setM s_5 s_5.2.1) (fun s_8 => (if r_6 = r_1.1 then jn0 (fun k750 => (if r_1.1 = 0 then ck (0 : Int32) 1 ((if (lg_cmp (s_8.2.2 (0 : Int32).toNatClampNeg) (i2l r_3.1)) = 0 then k750 else none)) else k750)) (kont s_8) else none))))))))))))
def lc_11 (L : Nat) (xs : Nat → Int32) (i : Int32) (s : LWS) (kont : LWS → Option Unit) : Option Unit :=
  bd (f_X10_wipe s.1) (fun r_1 => nm (setC s r_1.2) (fun s_3 => bd (f_X11_wipe s_3.2.1) (fun r_4 => nm (setM s_3 r_4.2) (fun s_6 => (if r_1.1 = r_4.1 then kont s_6 else none)))))
def lc_12 (L : Nat) (xs : Nat → Int32) (i : Int32) (s : LWS) (kont : LWS → Option Unit) : Option Unit :=
  bd (f_X10_fault s.1) (fun r_1 => nm (setC s s.1) (fun s_3 => bd (f_X11_fault s_3.2.1) (fun r_4 => nm (setM s_3 r_4.2) (fun s_6 => (if r_1 = r_4.1 then kont s_6 else none)))))
def lc_13 (L : Nat) (xs : Nat → Int32) (i : Int32) (s : LWS) (kont : LWS → Option Unit) : Option Unit :=
  bd (fh_build s) (fun r_1 => bd (f_X11_build r_1.2.2.1) (fun r_3 => nm (setM r_1.2 r_3.2) (fun s_5 => bd (f_X11_thrown s_5.2.1) (fun r_6 => nm (setM s_5 s_5.2.1) (fun s_8 => (if r_6 = r_1.1 then jn0 (fun k820 => (if r_1.1 = 0 then ck (0 : Int32) 1 ((if (lg_cmp (s_8.2.2 (0 : Int32).toNatClampNeg) (i2l r_3.1)) = 0 then k820 else none)) else k820)) (kont s_8) else none))))))
def lc_14 (L : Nat) (xs : Nat → Int32) (i : Int32) (s : LWS) (kont : LWS → Option Unit) : Option Unit :=
  ck (i + (1 : Int32)) L (bd (fh_run s (xs (i + (1 : Int32)).toNatClampNeg)) (fun r_1 => ck (i + (1 : Int32)) L (bd (f_X11_run r_1.2.2.1 (xs (i + (1 : Int32)).toNatClampNeg)) (fun r_3 => nm (setM r_1.2 r_3.2) (fun s_5 => bd (f_X11_thrown s_5.2.1) (fun r_6 => nm (setM s_5 s_5.2.1) (fun s_8 => (if r_6 = r_1.1 then jn0 (fun k876 => (if r_1.1 = 0 then ck (0 : Int32) 1 ((if (lg_cmp (s_8.2.2 (0 : Int32).toNatClampNeg) (i2l r_3.1)) = 0 then k876 else none)) else k876)) (kont s_8) else none))))))))
def lc_15 (L : Nat) (xs : Nat → Int32) (i : Int32) (s : LWS) (kont : LWS → Option Unit) : Option Unit :=
  bd (f_X10_outputs s.1) (fun r_1 => nm (setC s r_1.2) (fun s_3 => bd (f_X11_outputs s_3.2.1) (fun r_4 => nm (setM s_3 r_4.2) (fun s_6 => (if (lg_cmp r_1.1 r_4.1) = 0 then kont s_6 else none)))))
def lc_16 (L : Nat) (xs : Nat → Int32) (i : Int32) (s : LWS) (kont : LWS → Option Unit) : Option Unit :=
  bd (f_X10_sorts s.1) (fun r_1 => nm (setC s r_1.2) (fun s_3 => bd (f_X11_sorts s_3.2.1) (fun r_4 => nm (setM s_3 r_4.2) (fun s_6 => (if r_1.1 = r_4.1 then kont s_6 else none)))))
def lc_17 (L : Nat) (xs : Nat → Int32) (i : Int32) (s : LWS) (kont : LWS → Option Unit) : Option Unit :=
  bd (f_X10_sorted s.1) (fun r_1 => nm (setC s r_1.2) (fun s_3 => bd (f_X11_sorted s_3.2.1) (fun r_4 => nm (setM s_3 r_4.2) (fun s_6 => (if r_1.1 = r_4.1 then kont s_6 else none)))))
def lc_18 (L : Nat) (xs : Nat → Int32) (i : Int32) (s : LWS) (kont : LWS → Option Unit) : Option Unit :=
  ck (i + (1 : Int32)) L (bd (fh_wrong s (xs (i + (1 : Int32)).toNatClampNeg)) (fun r_1 => ck (i + (1 : Int32)) L (bd (f_X11_wrong r_1.2.2.1 (xs (i + (1 : Int32)).toNatClampNeg)) (fun r_3 => nm (setM r_1.2 r_3.2) (fun s_5 => bd (f_X11_thrown s_5.2.1) (fun r_6 => nm (setM s_5 s_5.2.1) (fun s_8 => (if r_6 = r_1.1 then jn0 (fun k972 => (if r_1.1 = 0 then ck (0 : Int32) 1 ((if (lg_cmp (s_8.2.2 (0 : Int32).toNatClampNeg) (i2l r_3.1)) = 0 then k972 else none)) else k972)) (kont s_8) else none))))))))
def lc_19 (L : Nat) (xs : Nat → Int32) (i : Int32) (s : LWS) (kont : LWS → Option Unit) : Option Unit :=
  ck (i + (1 : Int32)) L (bd (fh_finishes s (xs (i + (1 : Int32)).toNatClampNeg)) (fun r_1 => ck (i + (1 : Int32)) L (bd (f_X11_finishes r_1.2.2.1 (xs (i + (1 : Int32)).toNatClampNeg)) (fun r_3 => nm (setM r_1.2 r_3.2) (fun s_5 => bd (f_X11_thrown s_5.2.1) (fun r_6 => nm (setM s_5 s_5.2.1) (fun s_8 => (if r_6 = r_1.1 then jn0 (fun k1028 => (if r_1.1 = 0 then ck (0 : Int32) 1 ((if (lg_cmp (s_8.2.2 (0 : Int32).toNatClampNeg) (i2l r_3.1)) = 0 then k1028 else none)) else k1028)) (kont s_8) else none))))))))
def lc_20 (L : Nat) (xs : Nat → Int32) (i : Int32) (s : LWS) (kont : LWS → Option Unit) : Option Unit :=
  ck (i + (1 : Int32)) L (bd (fh_merges s (xs (i + (1 : Int32)).toNatClampNeg)) (fun r_1 => ck (i + (1 : Int32)) L (bd (f_X11_merges r_1.2.2.1 (xs (i + (1 : Int32)).toNatClampNeg)) (fun r_3 => nm (setM r_1.2 r_3.2) (fun s_5 => bd (f_X11_thrown s_5.2.1) (fun r_6 => nm (setM s_5 s_5.2.1) (fun s_8 => (if r_6 = r_1.1 then jn0 (fun k1091 => (if r_1.1 = 0 then ck (0 : Int32) 1 (jn1 (fun k1085 => (if r_3.1 = 0 then k1085 (0 : Int64) else k1085 (1 : Int64))) (fun (z_9 : Int64) => (if (lg_cmp (s_8.2.2 (0 : Int32).toNatClampNeg) z_9) = 0 then k1091 else none))) else k1091)) (kont s_8) else none))))))))
def lc_21 (L : Nat) (xs : Nat → Int32) (i : Int32) (s : LWS) (kont : LWS → Option Unit) : Option Unit :=
  ck (i + (1 : Int32)) L (bd (fh_chooses s (xs (i + (1 : Int32)).toNatClampNeg)) (fun r_1 => ck (i + (1 : Int32)) L (bd (f_X11_chooses r_1.2.2.1 (xs (i + (1 : Int32)).toNatClampNeg)) (fun r_3 => nm (setM r_1.2 r_3.2) (fun s_5 => bd (f_X11_thrown s_5.2.1) (fun r_6 => nm (setM s_5 s_5.2.1) (fun s_8 => (if r_6 = r_1.1 then jn0 (fun k1154 => (if r_1.1 = 0 then ck (0 : Int32) 1 (jn1 (fun k1148 => (if r_3.1 = 0 then k1148 (0 : Int64) else k1148 (1 : Int64))) (fun (z_9 : Int64) => (if (lg_cmp (s_8.2.2 (0 : Int32).toNatClampNeg) z_9) = 0 then k1154 else none))) else k1154)) (kont s_8) else none))))))))
def lc_22 (L : Nat) (xs : Nat → Int32) (i : Int32) (s : LWS) (kont : LWS → Option Unit) : Option Unit :=
  bd (f_X10_off s.1) (fun r_1 => nm (setC s r_1.2) (fun s_3 => bd (f_X11_off s_3.2.1) (fun r_4 => nm (setM s_3 r_4.2) (fun s_6 => (if r_1.1 = r_4.1 then kont s_6 else none)))))
def lc_23 (L : Nat) (xs : Nat → Int32) (i : Int32) (s : LWS) (kont : LWS → Option Unit) : Option Unit :=
  bd (f_X10_routes s.1) (fun r_1 => nm (setC s r_1.2) (fun s_3 => bd (f_X11_routes s_3.2.1) (fun r_4 => nm (setM s_3 r_4.2) (fun s_6 => (if r_1.1 = r_4.1 then kont s_6 else none)))))
def lc_24 (L : Nat) (xs : Nat → Int32) (i : Int32) (s : LWS) (kont : LWS → Option Unit) : Option Unit :=
  ck (i + (1 : Int32)) L (bd (fh_setting s (xs (i + (1 : Int32)).toNatClampNeg)) (fun r_1 => ck (i + (1 : Int32)) L (bd (f_X11_setting r_1.2.2.1 (xs (i + (1 : Int32)).toNatClampNeg)) (fun r_3 => nm (setM r_1.2 r_3.2) (fun s_5 => bd (f_X11_thrown s_5.2.1) (fun r_6 => nm (setM s_5 s_5.2.1) (fun s_8 => (if r_6 = r_1.1 then jn0 (fun k1236 => (if r_1.1 = 0 then ck (0 : Int32) 1 ((if (lg_cmp (s_8.2.2 (0 : Int32).toNatClampNeg) (i2l r_3.1)) = 0 then k1236 else none)) else k1236)) (kont s_8) else none))))))))
def lc_25 (L : Nat) (xs : Nat → Int32) (i : Int32) (s : LWS) (kont : LWS → Option Unit) : Option Unit :=
  ck (i + (1 : Int32)) L (bd (fh_token s (xs (i + (1 : Int32)).toNatClampNeg)) (fun r_1 => ck (i + (1 : Int32)) L (bd (f_X11_token r_1.2.2.1 (xs (i + (1 : Int32)).toNatClampNeg)) (fun r_3 => nm (setM r_1.2 r_3.2) (fun s_5 => bd (f_X11_thrown s_5.2.1) (fun r_6 => nm (setM s_5 s_5.2.1) (fun s_8 => (if r_6 = r_1.1 then jn0 (fun k1292 => (if r_1.1 = 0 then ck (0 : Int32) 1 ((if (lg_cmp (s_8.2.2 (0 : Int32).toNatClampNeg) (i2l r_3.1)) = 0 then k1292 else none)) else k1292)) (kont s_8) else none))))))))
def lc_26 (L : Nat) (xs : Nat → Int32) (i : Int32) (s : LWS) (kont : LWS → Option Unit) : Option Unit :=
  ck (i + (1 : Int32)) L (bd (fh_came s (xs (i + (1 : Int32)).toNatClampNeg)) (fun r_1 => ck (i + (1 : Int32)) L (bd (f_X11_came r_1.2.2.1 (xs (i + (1 : Int32)).toNatClampNeg)) (fun r_3 => nm (setM r_1.2 r_3.2) (fun s_5 => bd (f_X11_thrown s_5.2.1) (fun r_6 => nm (setM s_5 s_5.2.1) (fun s_8 => (if r_6 = r_1.1 then jn0 (fun k1348 => (if r_1.1 = 0 then ck (0 : Int32) 1 ((if (lg_cmp (s_8.2.2 (0 : Int32).toNatClampNeg) (i2l r_3.1)) = 0 then k1348 else none)) else k1348)) (kont s_8) else none))))))))
def lc_27 (L : Nat) (xs : Nat → Int32) (i : Int32) (s : LWS) (kont : LWS → Option Unit) : Option Unit :=
  ck (i + (1 : Int32)) L (bd (fh_cameAnew s (xs (i + (1 : Int32)).toNatClampNeg)) (fun r_1 => ck (i + (1 : Int32)) L (bd (f_X11_cameAnew r_1.2.2.1 (xs (i + (1 : Int32)).toNatClampNeg)) (fun r_3 => nm (setM r_1.2 r_3.2) (fun s_5 => bd (f_X11_thrown s_5.2.1) (fun r_6 => nm (setM s_5 s_5.2.1) (fun s_8 => (if r_6 = r_1.1 then jn0 (fun k1404 => (if r_1.1 = 0 then ck (0 : Int32) 1 ((if (lg_cmp (s_8.2.2 (0 : Int32).toNatClampNeg) (i2l r_3.1)) = 0 then k1404 else none)) else k1404)) (kont s_8) else none))))))))
def lc_28 (L : Nat) (xs : Nat → Int32) (i : Int32) (s : LWS) (kont : LWS → Option Unit) : Option Unit :=
  bd (f_X10_isStep s.1) (fun r_1 => nm (setC s s.1) (fun s_3 => bd (f_X11_isStep s_3.2.1) (fun r_4 => nm (setM s_3 r_4.2) (fun s_6 => (if r_1 = r_4.1 then kont s_6 else none)))))
def lc_29 (L : Nat) (xs : Nat → Int32) (i : Int32) (s : LWS) (kont : LWS → Option Unit) : Option Unit :=
  ck (i + (1 : Int32)) L (ck (i + (2 : Int32)) L (bd (fh_bad s (xs (i + (1 : Int32)).toNatClampNeg) (xs (i + (2 : Int32)).toNatClampNeg)) (fun r_1 => ck (i + (1 : Int32)) L (ck (i + (2 : Int32)) L (bd (f_X11_bad r_1.2.2.1 (xs (i + (1 : Int32)).toNatClampNeg) (xs (i + (2 : Int32)).toNatClampNeg)) (fun r_3 => nm (setM r_1.2 r_3.2) (fun s_5 => bd (f_X11_thrown s_5.2.1) (fun r_6 => nm (setM s_5 s_5.2.1) (fun s_8 => (if r_6 = r_1.1 then jn0 (fun k1485 => (if r_1.1 = 0 then ck (0 : Int32) 1 ((if (lg_cmp (s_8.2.2 (0 : Int32).toNatClampNeg) (i2l r_3.1)) = 0 then k1485 else none)) else k1485)) (kont s_8) else none))))))))))
def lc_30 (L : Nat) (xs : Nat → Int32) (i : Int32) (s : LWS) (kont : LWS → Option Unit) : Option Unit :=
  ck (i + (1 : Int32)) L (ck (i + (2 : Int32)) L (bd (fh_tells s (xs (i + (1 : Int32)).toNatClampNeg) (xs (i + (2 : Int32)).toNatClampNeg)) (fun r_1 => ck (i + (1 : Int32)) L (ck (i + (2 : Int32)) L (bd (f_X11_tells r_1.2.2.1 (xs (i + (1 : Int32)).toNatClampNeg) (xs (i + (2 : Int32)).toNatClampNeg)) (fun r_3 => nm (setM r_1.2 r_3.2) (fun s_5 => bd (f_X11_thrown s_5.2.1) (fun r_6 => nm (setM s_5 s_5.2.1) (fun s_8 => (if r_6 = r_1.1 then jn0 (fun k1552 => (if r_1.1 = 0 then ck (0 : Int32) 1 ((if (lg_cmp (s_8.2.2 (0 : Int32).toNatClampNeg) r_3.1) = 0 then k1552 else none)) else k1552)) (kont s_8) else none))))))))))
def lc_31 (L : Nat) (xs : Nat → Int32) (i : Int32) (s : LWS) (kont : LWS → Option Unit) : Option Unit :=
  ck (i + (1 : Int32)) L (ck (i + (2 : Int32)) L (bd (f_X10_hidden s.1 ((lshl (i2l (xs (i + (1 : Int32)).toNatClampNeg)) (32 : Int32)) ||| ((i2l (xs (i + (2 : Int32)).toNatClampNeg)) &&& (4294967295 : Int64)))) (fun r_1 => nm (setC s r_1.2) (fun s_3 => ck (i + (1 : Int32)) L (ck (i + (2 : Int32)) L (bd (f_X11_hidden s_3.2.1 ((lshl (i2l (xs (i + (1 : Int32)).toNatClampNeg)) (32 : Int32)) ||| ((i2l (xs (i + (2 : Int32)).toNatClampNeg)) &&& (4294967295 : Int64)))) (fun r_4 => nm (setM s_3 r_4.2) (fun s_6 => (if r_1.1 = r_4.1 then kont s_6 else none)))))))))
def lc_32 (L : Nat) (xs : Nat → Int32) (i : Int32) (s : LWS) (kont : LWS → Option Unit) : Option Unit :=
  bd (f_X10_tests s.1) (fun r_1 => nm (setC s r_1.2) (fun s_3 => bd (f_X11_tests s_3.2.1) (fun r_4 => nm (setM s_3 r_4.2) (fun s_6 => (if r_1.1 = r_4.1 then kont s_6 else none)))))
def lc_33 (L : Nat) (xs : Nat → Int32) (i : Int32) (s : LWS) (kont : LWS → Option Unit) : Option Unit :=
  bd (f_X10_bears s.1) (fun r_1 => nm (setC s r_1.2) (fun s_3 => bd (f_X11_bears s_3.2.1) (fun r_4 => nm (setM s_3 r_4.2) (fun s_6 => (if r_1.1 = r_4.1 then kont s_6 else none)))))
def lc_34 (L : Nat) (xs : Nat → Int32) (i : Int32) (s : LWS) (kont : LWS → Option Unit) : Option Unit :=
  ck (i + (1 : Int32)) L (ck (i + (2 : Int32)) L (bd (fh_far s (xs (i + (1 : Int32)).toNatClampNeg) (xs (i + (2 : Int32)).toNatClampNeg)) (fun r_1 => ck (i + (1 : Int32)) L (ck (i + (2 : Int32)) L (bd (f_X11_far r_1.2.2.1 (xs (i + (1 : Int32)).toNatClampNeg) (xs (i + (2 : Int32)).toNatClampNeg)) (fun r_3 => nm (setM r_1.2 r_3.2) (fun s_5 => bd (f_X11_thrown s_5.2.1) (fun r_6 => nm (setM s_5 s_5.2.1) (fun s_8 => (if r_6 = r_1.1 then jn0 (fun k1703 => (if r_1.1 = 0 then ck (0 : Int32) 1 ((if (lg_cmp (s_8.2.2 (0 : Int32).toNatClampNeg) (i2l r_3.1)) = 0 then k1703 else none)) else k1703)) (kont s_8) else none))))))))))
def lc_35 (L : Nat) (xs : Nat → Int32) (i : Int32) (s : LWS) (kont : LWS → Option Unit) : Option Unit :=
  ck (i + (1 : Int32)) L (ck (i + (2 : Int32)) L (bd (fh_step s (xs (i + (1 : Int32)).toNatClampNeg) (xs (i + (2 : Int32)).toNatClampNeg)) (fun r_1 => ck (i + (1 : Int32)) L (ck (i + (2 : Int32)) L (bd (f_X11_step r_1.2.2.1 (xs (i + (1 : Int32)).toNatClampNeg) (xs (i + (2 : Int32)).toNatClampNeg)) (fun r_3 => nm (setM r_1.2 r_3.2) (fun s_5 => bd (f_X11_thrown s_5.2.1) (fun r_6 => nm (setM s_5 s_5.2.1) (fun s_8 => (if r_6 = r_1.1 then jn0 (fun k1771 => (if r_1.1 = 0 then ck (0 : Int32) 1 ((if (lg_cmp (s_8.2.2 (0 : Int32).toNatClampNeg) (i2l r_3.1)) = 0 then k1771 else none)) else k1771)) (kont s_8) else none))))))))))
def lc_36 (L : Nat) (xs : Nat → Int32) (i : Int32) (s : LWS) (kont : LWS → Option Unit) : Option Unit :=
  ck (i + (1 : Int32)) L (ck (i + (2 : Int32)) L (bd (fh_manyFar s (xs (i + (1 : Int32)).toNatClampNeg) (xs (i + (2 : Int32)).toNatClampNeg)) (fun r_1 => ck (i + (1 : Int32)) L (ck (i + (2 : Int32)) L (bd (f_X11_manyFar r_1.2.2.1 (xs (i + (1 : Int32)).toNatClampNeg) (xs (i + (2 : Int32)).toNatClampNeg)) (fun r_3 => nm (setM r_1.2 r_3.2) (fun s_5 => bd (f_X11_thrown s_5.2.1) (fun r_6 => nm (setM s_5 s_5.2.1) (fun s_8 => (if r_6 = r_1.1 then jn0 (fun k1839 => (if r_1.1 = 0 then ck (0 : Int32) 1 ((if (lg_cmp (s_8.2.2 (0 : Int32).toNatClampNeg) (i2l r_3.1)) = 0 then k1839 else none)) else k1839)) (kont s_8) else none))))))))))
def lc_37 (L : Nat) (xs : Nat → Int32) (i : Int32) (s : LWS) (kont : LWS → Option Unit) : Option Unit :=
  ck (i + (1 : Int32)) L (ck (i + (2 : Int32)) L (bd (fh_ask s (xs (i + (1 : Int32)).toNatClampNeg) (xs (i + (2 : Int32)).toNatClampNeg)) (fun r_1 => ck (i + (1 : Int32)) L (ck (i + (2 : Int32)) L (bd (f_X11_ask r_1.2.2.1 (xs (i + (1 : Int32)).toNatClampNeg) (xs (i + (2 : Int32)).toNatClampNeg)) (fun r_3 => nm (setM r_1.2 r_3.2) (fun s_5 => bd (f_X11_thrown s_5.2.1) (fun r_6 => nm (setM s_5 s_5.2.1) (fun s_8 => (if r_6 = r_1.1 then jn0 (fun k1914 => (if r_1.1 = 0 then ck (0 : Int32) 1 (jn1 (fun k1908 => (if r_3.1 = 0 then k1908 (0 : Int64) else k1908 (1 : Int64))) (fun (z_9 : Int64) => (if (lg_cmp (s_8.2.2 (0 : Int32).toNatClampNeg) z_9) = 0 then k1914 else none))) else k1914)) (kont s_8) else none))))))))))
def lc_38 (L : Nat) (xs : Nat → Int32) (i : Int32) (s : LWS) (kont : LWS → Option Unit) : Option Unit :=
  bd (f_X10_left s.1) (fun r_1 => nm (setC s r_1.2) (fun s_3 => bd (f_X11_left s_3.2.1) (fun r_4 => nm (setM s_3 r_4.2) (fun s_6 => (if r_1.1 = r_4.1 then kont s_6 else none)))))
def lc_39 (L : Nat) (xs : Nat → Int32) (i : Int32) (s : LWS) (kont : LWS → Option Unit) : Option Unit :=
  bd (f_X10_needed s.1) (fun r_1 => nm (setC s r_1.2) (fun s_3 => bd (f_X11_needed s_3.2.1) (fun r_4 => nm (setM s_3 r_4.2) (fun s_6 => (if r_1.1 = r_4.1 then kont s_6 else none)))))
set_option maxRecDepth 100000 in
set_option maxHeartbeats 4000000 in
theorem tc_0 (l : Launch) (D : va_G) (ad : Nat → Nat) (cy : Nat → ClassId) (hfl : l.stackTraces = false) {X : Cx} {R : Room} {b L : Nat} {xs : Nat → Int32} (O : Ok l D cy X cL_law RL 8 R) (hN : NCX X) (hX : SX X b L xs) (hRf : 300 ≤ R.frames ∧ 9000 ≤ R.locals) {k0 n0 : Nat} (hk : k0 + 8 ≤ R.cells ∧ n0 + 48 ≤ R.slots) {i : Int32} {s : LWS} {kont : LWS → Option Unit} {o : Unit} (E : lc_0 L xs i s kont = some o) (hko : ∀ s1, kont s1 = some o → G l D X 8 (LW ad cy) (k0 + 8) (n0 + 48) s1 1943 [(0, .ref b), (1, .ref (ad 0)), (2, .ref (ad 35)), (3, .ref (ad 54)), (4, .int i)] []) : G l D X 8 (LW ad cy) k0 n0 s 212 [(0, .ref b), (1, .ref (ad 0)), (2, .ref (ad 35)), (3, .ref (ad 54)), (4, .int i)] [] := by
  obtain ⟨hk1, hk2⟩ := hk
  unfold lc_0 at E
  refine g_aload_n (pc' := 213) O ⟨dL_law_212, rfl⟩ (q := 1) rfl rfl ?_
  refine g_aload_n (pc' := 214) O ⟨dL_law_213, rfl⟩ (q := 0) rfl rfl ?_
  refine g_iload (pc' := 216) O ⟨dL_law_214, rfl⟩ (q := 4) rfl ?_
  refine g_iconst (pc' := 217) O ⟨dL_law_216, rfl⟩ (v := (1 : Int32)) rfl ?_
  refine g_iadd (pc' := 218) O ⟨dL_law_217, rfl⟩ ?_
  refine g_sld (pc' := 219) O ⟨dL_law_218, rfl⟩ hX E (fun E => ?_)
  refine g_aload_n (pc' := 220) O ⟨dL_law_219, rfl⟩ (q := 3) rfl rfl ?_
  obtain ⟨r_1, c_2, E⟩ := bd_of E
  refine g_H (pc' := 223) O hN ⟨dL_law_220, rfl⟩ (y := yL_network) (As := [.ref (ad 0), .int (xs (i + (1 : Int32)).toNatClampNeg), .ref (ad 54)]) (st := []) (th_network l D ad cy hfl (s := s) c_2) kw_552 kw_59 kw_550 kw_551 hd_L_network ⟨Nat.le_trans (Nat.le_of_ble_eq_true rfl) hRf.1, Nat.le_trans (Nat.le_of_ble_eq_true rfl) hRf.2⟩ ⟨by omega, by omega⟩ rfl (Nat.le_of_ble_eq_true rfl) ?_
  refine g_istore (pc' := 225) O ⟨dL_law_223, rfl⟩ (lv' := [(5, .int r_1.1), (0, .ref b), (1, .ref (ad 0)), (2, .ref (ad 35)), (3, .ref (ad 54)), (4, .int i)]) (by decide) rfl ?_
  refine g_aload_n (pc' := 226) O ⟨dL_law_225, rfl⟩ (q := 3) rfl rfl ?_
  refine g_aload_n (pc' := 227) O ⟨dL_law_226, rfl⟩ (q := 1) rfl rfl ?_
  refine g_iload (pc' := 229) O ⟨dL_law_227, rfl⟩ (q := 5) rfl ?_
  refine g_iconst (pc' := 230) O ⟨dL_law_229, rfl⟩ (v := (1 : Int32)) rfl ?_
  refine g_iadd (pc' := 231) O ⟨dL_law_230, rfl⟩ ?_
  refine g_sld (pc' := 232) O ⟨dL_law_231, rfl⟩ hX E (fun E => ?_)
  obtain ⟨r_3, c_4, E⟩ := bd_of E
  refine g_Ui (pc' := 235) O ⟨dL_law_232, rfl⟩ (y := yX11_network) (As := [.int (xs (i + (1 : Int32)).toNatClampNeg)]) (st := []) (subM ad cy r_1.2) (t_X11_network l D (fun k => ad (35 + k)) cy (h := r_1.2.2.1) c_4) kw_1164 kw_70 kw_1161 kw_1162 kw_1163 rfl (wL_35 ad cy r_1.2) hd_X11_network ⟨Nat.le_trans (Nat.le_of_ble_eq_true rfl) hRf.1, Nat.le_trans (Nat.le_of_ble_eq_true rfl) hRf.2⟩ ⟨by omega, by omega⟩ rfl (Nat.le_of_ble_eq_true rfl) ?_
  refine g_nmh E (fun s_5 E => ?_)
  refine g_istore (pc' := 237) O ⟨dL_law_235, rfl⟩ (lv' := [(6, .int r_3.1), (5, .int r_1.1), (0, .ref b), (1, .ref (ad 0)), (2, .ref (ad 35)), (3, .ref (ad 54)), (4, .int i)]) (by decide) rfl ?_
  refine g_aload_n (pc' := 238) O ⟨dL_law_237, rfl⟩ (q := 4) rfl rfl ?_
  obtain ⟨r_6, c_7, E⟩ := bd_of E
  refine g_Ui (pc' := 241) O ⟨dL_law_238, rfl⟩ (y := yX11_thrown) (As := []) (st := []) (subM ad cy s_5) (t_X11_thrown l D (fun k => ad (35 + k)) cy (h := s_5.2.1) c_7) kw_1160 kw_70 kw_1157 kw_1158 kw_1159 rfl (wL_35 ad cy s_5) hd_X11_thrown ⟨Nat.le_trans (Nat.le_of_ble_eq_true rfl) hRf.1, Nat.le_trans (Nat.le_of_ble_eq_true rfl) hRf.2⟩ ⟨by omega, by omega⟩ rfl (Nat.le_of_ble_eq_true rfl) ?_
  refine g_nmh E (fun s_8 E => ?_)
  refine g_iload (pc' := 243) O ⟨dL_law_241, rfl⟩ (q := 1) rfl ?_
  refine g_icmp_eq (pc' := 246) O ⟨dL_law_243, rfl⟩ E (tgt := 248) (by decide) (fun E => ?_) (fun E => ?_)
  · refine g_iload (pc' := 250) O ⟨dL_law_248, rfl⟩ (q := 1) rfl ?_
    refine jn0_of (P := G l D X 8 (LW ad cy) (k0 + 1) (n0 + 6) s_8 265 [(0, .ref b), (1, .ref (ad 0)), (2, .ref (ad 35)), (3, .ref (ad 54)), (4, .int i)] []) E ?_ ?_
    · intro E
      show G l D X 8 (LW ad cy) (k0 + 1) (n0 + 6) s_8 265 [(0, .ref b), (1, .ref (ad 0)), (2, .ref (ad 35)), (3, .ref (ad 54)), (4, .int i)] []
      refine g_goto (pc' := 268) O ⟨dL_law_265, rfl⟩ (tgt := 1943) (by decide) ?_
      exact g_widen (by omega) (by omega) (hko _ E)
    · intro k265 hk265 E
      refine g_if_ne (pc' := 253) O ⟨dL_law_250, rfl⟩ E (tgt := 265) (by decide) (fun E => ?_) (fun E => ?_)
      · refine g_sub (lv' := [(0, .ref b), (1, .ref (ad 0)), (2, .ref (ad 35)), (3, .ref (ad 54)), (4, .int i)]) [2, 3, 4, 5, 6] rfl ?_
        exact hk265 E
      · refine g_aload_n (pc' := 254) O ⟨dL_law_253, rfl⟩ (q := 5) rfl rfl ?_
        refine g_iconst (pc' := 255) O ⟨dL_law_254, rfl⟩ (v := (0 : Int32)) rfl ?_
        refine g_lald (pc' := 256) O ⟨dL_law_255, rfl⟩ (wL_54 ad cy s_8) E (fun E => ?_)
        refine g_iload (pc' := 258) O ⟨dL_law_256, rfl⟩ (q := 0) rfl ?_
        refine g_i2l (pc' := 259) O ⟨dL_law_258, rfl⟩ ?_
        refine g_lcmp (pc' := 260) O ⟨dL_law_259, rfl⟩ ?_
        refine g_if_eq (pc' := 263) O ⟨dL_law_260, rfl⟩ E (tgt := 265) (by decide) (fun E => ?_) (fun E => ?_)
        · refine g_sub (lv' := [(0, .ref b), (1, .ref (ad 0)), (2, .ref (ad 35)), (3, .ref (ad 54)), (4, .int i)]) [2, 3, 4, 5, 6] rfl ?_
          exact hk265 E
        · refine g_iconst (pc' := 264) O ⟨dL_law_263, rfl⟩ (v := (0 : Int32)) rfl ?_
          cases E
  · refine g_iconst (pc' := 247) O ⟨dL_law_246, rfl⟩ (v := (0 : Int32)) rfl ?_
    cases E
set_option maxRecDepth 100000 in
set_option maxHeartbeats 4000000 in
theorem tc_1 (l : Launch) (D : va_G) (ad : Nat → Nat) (cy : Nat → ClassId) (hfl : l.stackTraces = false) {X : Cx} {R : Room} {b L : Nat} {xs : Nat → Int32} (O : Ok l D cy X cL_law RL 8 R) (hN : NCX X) (hX : SX X b L xs) (hRf : 300 ≤ R.frames ∧ 9000 ≤ R.locals) {k0 n0 : Nat} (hk : k0 + 8 ≤ R.cells ∧ n0 + 48 ≤ R.slots) {i : Int32} {s : LWS} {kont : LWS → Option Unit} {o : Unit} (E : lc_1 L xs i s kont = some o) (hko : ∀ s1, kont s1 = some o → G l D X 8 (LW ad cy) (k0 + 8) (n0 + 48) s1 1943 [(0, .ref b), (1, .ref (ad 0)), (2, .ref (ad 35)), (3, .ref (ad 54)), (4, .int i)] []) : G l D X 8 (LW ad cy) k0 n0 s 268 [(0, .ref b), (1, .ref (ad 0)), (2, .ref (ad 35)), (3, .ref (ad 54)), (4, .int i)] [] := by
  obtain ⟨hk1, hk2⟩ := hk
  unfold lc_1 at E
  refine g_aload_n (pc' := 269) O ⟨dL_law_268, rfl⟩ (q := 1) rfl rfl ?_
  refine g_aload_n (pc' := 270) O ⟨dL_law_269, rfl⟩ (q := 0) rfl rfl ?_
  refine g_iload (pc' := 272) O ⟨dL_law_270, rfl⟩ (q := 4) rfl ?_
  refine g_iconst (pc' := 273) O ⟨dL_law_272, rfl⟩ (v := (1 : Int32)) rfl ?_
  refine g_iadd (pc' := 274) O ⟨dL_law_273, rfl⟩ ?_
  refine g_sld (pc' := 275) O ⟨dL_law_274, rfl⟩ hX E (fun E => ?_)
  refine g_aload_n (pc' := 276) O ⟨dL_law_275, rfl⟩ (q := 0) rfl rfl ?_
  refine g_iload (pc' := 278) O ⟨dL_law_276, rfl⟩ (q := 4) rfl ?_
  refine g_iconst (pc' := 279) O ⟨dL_law_278, rfl⟩ (v := (2 : Int32)) rfl ?_
  refine g_iadd (pc' := 280) O ⟨dL_law_279, rfl⟩ ?_
  refine g_sld (pc' := 281) O ⟨dL_law_280, rfl⟩ hX E (fun E => ?_)
  refine g_aload_n (pc' := 282) O ⟨dL_law_281, rfl⟩ (q := 3) rfl rfl ?_
  obtain ⟨r_1, c_2, E⟩ := bd_of E
  refine g_H (pc' := 285) O hN ⟨dL_law_282, rfl⟩ (y := yL_add) (As := [.ref (ad 0), .int (xs (i + (1 : Int32)).toNatClampNeg), .int (xs (i + (2 : Int32)).toNatClampNeg), .ref (ad 54)]) (st := []) (th_add l D ad cy hfl (s := s) c_2) kw_635 kw_59 kw_633 kw_634 hd_L_add ⟨Nat.le_trans (Nat.le_of_ble_eq_true rfl) hRf.1, Nat.le_trans (Nat.le_of_ble_eq_true rfl) hRf.2⟩ ⟨by omega, by omega⟩ rfl (Nat.le_of_ble_eq_true rfl) ?_
  refine g_istore (pc' := 287) O ⟨dL_law_285, rfl⟩ (lv' := [(5, .int r_1.1), (0, .ref b), (1, .ref (ad 0)), (2, .ref (ad 35)), (3, .ref (ad 54)), (4, .int i)]) (by decide) rfl ?_
  refine g_aload_n (pc' := 288) O ⟨dL_law_287, rfl⟩ (q := 3) rfl rfl ?_
  refine g_aload_n (pc' := 289) O ⟨dL_law_288, rfl⟩ (q := 1) rfl rfl ?_
  refine g_iload (pc' := 291) O ⟨dL_law_289, rfl⟩ (q := 5) rfl ?_
  refine g_iconst (pc' := 292) O ⟨dL_law_291, rfl⟩ (v := (1 : Int32)) rfl ?_
  refine g_iadd (pc' := 293) O ⟨dL_law_292, rfl⟩ ?_
  refine g_sld (pc' := 294) O ⟨dL_law_293, rfl⟩ hX E (fun E => ?_)
  refine g_aload_n (pc' := 295) O ⟨dL_law_294, rfl⟩ (q := 1) rfl rfl ?_
  refine g_iload (pc' := 297) O ⟨dL_law_295, rfl⟩ (q := 5) rfl ?_
  refine g_iconst (pc' := 298) O ⟨dL_law_297, rfl⟩ (v := (2 : Int32)) rfl ?_
  refine g_iadd (pc' := 299) O ⟨dL_law_298, rfl⟩ ?_
  refine g_sld (pc' := 300) O ⟨dL_law_299, rfl⟩ hX E (fun E => ?_)
  obtain ⟨r_3, c_4, E⟩ := bd_of E
  refine g_Ui (pc' := 303) O ⟨dL_law_300, rfl⟩ (y := yX11_add) (As := [.int (xs (i + (1 : Int32)).toNatClampNeg), .int (xs (i + (2 : Int32)).toNatClampNeg)]) (st := []) (subM ad cy r_1.2) (t_X11_add l D (fun k => ad (35 + k)) cy (h := r_1.2.2.1) c_4) kw_1171 kw_70 kw_1168 kw_1169 kw_1170 rfl (wL_35 ad cy r_1.2) hd_X11_add ⟨Nat.le_trans (Nat.le_of_ble_eq_true rfl) hRf.1, Nat.le_trans (Nat.le_of_ble_eq_true rfl) hRf.2⟩ ⟨by omega, by omega⟩ rfl (Nat.le_of_ble_eq_true rfl) ?_
  refine g_nmh E (fun s_5 E => ?_)
  refine g_istore (pc' := 305) O ⟨dL_law_303, rfl⟩ (lv' := [(6, .int r_3.1), (5, .int r_1.1), (0, .ref b), (1, .ref (ad 0)), (2, .ref (ad 35)), (3, .ref (ad 54)), (4, .int i)]) (by decide) rfl ?_
  refine g_aload_n (pc' := 306) O ⟨dL_law_305, rfl⟩ (q := 4) rfl rfl ?_
  obtain ⟨r_6, c_7, E⟩ := bd_of E
  refine g_Ui (pc' := 309) O ⟨dL_law_306, rfl⟩ (y := yX11_thrown) (As := []) (st := []) (subM ad cy s_5) (t_X11_thrown l D (fun k => ad (35 + k)) cy (h := s_5.2.1) c_7) kw_1160 kw_70 kw_1157 kw_1158 kw_1159 rfl (wL_35 ad cy s_5) hd_X11_thrown ⟨Nat.le_trans (Nat.le_of_ble_eq_true rfl) hRf.1, Nat.le_trans (Nat.le_of_ble_eq_true rfl) hRf.2⟩ ⟨by omega, by omega⟩ rfl (Nat.le_of_ble_eq_true rfl) ?_
  refine g_nmh E (fun s_8 E => ?_)
  refine g_iload (pc' := 311) O ⟨dL_law_309, rfl⟩ (q := 1) rfl ?_
  refine g_icmp_eq (pc' := 314) O ⟨dL_law_311, rfl⟩ E (tgt := 316) (by decide) (fun E => ?_) (fun E => ?_)
  · refine g_iload (pc' := 318) O ⟨dL_law_316, rfl⟩ (q := 1) rfl ?_
    refine jn0_of (P := G l D X 8 (LW ad cy) (k0 + 4) (n0 + 24) s_8 333 [(0, .ref b), (1, .ref (ad 0)), (2, .ref (ad 35)), (3, .ref (ad 54)), (4, .int i)] []) E ?_ ?_
    · intro E
      show G l D X 8 (LW ad cy) (k0 + 4) (n0 + 24) s_8 333 [(0, .ref b), (1, .ref (ad 0)), (2, .ref (ad 35)), (3, .ref (ad 54)), (4, .int i)] []
      refine g_goto (pc' := 336) O ⟨dL_law_333, rfl⟩ (tgt := 1943) (by decide) ?_
      exact g_widen (by omega) (by omega) (hko _ E)
    · intro k333 hk333 E
      refine g_if_ne (pc' := 321) O ⟨dL_law_318, rfl⟩ E (tgt := 333) (by decide) (fun E => ?_) (fun E => ?_)
      · refine g_sub (lv' := [(0, .ref b), (1, .ref (ad 0)), (2, .ref (ad 35)), (3, .ref (ad 54)), (4, .int i)]) [2, 3, 4, 5, 6] rfl ?_
        exact hk333 E
      · refine g_aload_n (pc' := 322) O ⟨dL_law_321, rfl⟩ (q := 5) rfl rfl ?_
        refine g_iconst (pc' := 323) O ⟨dL_law_322, rfl⟩ (v := (0 : Int32)) rfl ?_
        refine g_lald (pc' := 324) O ⟨dL_law_323, rfl⟩ (wL_54 ad cy s_8) E (fun E => ?_)
        refine g_iload (pc' := 326) O ⟨dL_law_324, rfl⟩ (q := 0) rfl ?_
        refine g_i2l (pc' := 327) O ⟨dL_law_326, rfl⟩ ?_
        refine g_lcmp (pc' := 328) O ⟨dL_law_327, rfl⟩ ?_
        refine g_if_eq (pc' := 331) O ⟨dL_law_328, rfl⟩ E (tgt := 333) (by decide) (fun E => ?_) (fun E => ?_)
        · refine g_sub (lv' := [(0, .ref b), (1, .ref (ad 0)), (2, .ref (ad 35)), (3, .ref (ad 54)), (4, .int i)]) [2, 3, 4, 5, 6] rfl ?_
          exact hk333 E
        · refine g_iconst (pc' := 332) O ⟨dL_law_331, rfl⟩ (v := (0 : Int32)) rfl ?_
          cases E
  · refine g_iconst (pc' := 315) O ⟨dL_law_314, rfl⟩ (v := (0 : Int32)) rfl ?_
    cases E
set_option maxRecDepth 100000 in
set_option maxHeartbeats 4000000 in
theorem tc_2 (l : Launch) (D : va_G) (ad : Nat → Nat) (cy : Nat → ClassId) (hfl : l.stackTraces = false) {X : Cx} {R : Room} {b L : Nat} {xs : Nat → Int32} (O : Ok l D cy X cL_law RL 8 R) (hN : NCX X) (hX : SX X b L xs) (hRf : 300 ≤ R.frames ∧ 9000 ≤ R.locals) {k0 n0 : Nat} (hk : k0 + 8 ≤ R.cells ∧ n0 + 48 ≤ R.slots) {i : Int32} {s : LWS} {kont : LWS → Option Unit} {o : Unit} (E : lc_2 L xs i s kont = some o) (hko : ∀ s1, kont s1 = some o → G l D X 8 (LW ad cy) (k0 + 8) (n0 + 48) s1 1943 [(0, .ref b), (1, .ref (ad 0)), (2, .ref (ad 35)), (3, .ref (ad 54)), (4, .int i)] []) : G l D X 8 (LW ad cy) k0 n0 s 336 [(0, .ref b), (1, .ref (ad 0)), (2, .ref (ad 35)), (3, .ref (ad 54)), (4, .int i)] [] := by
  obtain ⟨hk1, hk2⟩ := hk
  unfold lc_2 at E
  refine g_aload_n (pc' := 337) O ⟨dL_law_336, rfl⟩ (q := 1) rfl rfl ?_
  refine g_aload_n (pc' := 338) O ⟨dL_law_337, rfl⟩ (q := 3) rfl rfl ?_
  obtain ⟨r_1, c_2, E⟩ := bd_of E
  refine g_H (pc' := 341) O hN ⟨dL_law_338, rfl⟩ (y := yL_take) (As := [.ref (ad 0), .ref (ad 54)]) (st := []) (th_take l D ad cy hfl (s := s) c_2) kw_690 kw_59 kw_688 kw_689 hd_L_take ⟨Nat.le_trans (Nat.le_of_ble_eq_true rfl) hRf.1, Nat.le_trans (Nat.le_of_ble_eq_true rfl) hRf.2⟩ ⟨by omega, by omega⟩ rfl (Nat.le_of_ble_eq_true rfl) ?_
  refine g_istore (pc' := 343) O ⟨dL_law_341, rfl⟩ (lv' := [(5, .int r_1.1), (0, .ref b), (1, .ref (ad 0)), (2, .ref (ad 35)), (3, .ref (ad 54)), (4, .int i)]) (by decide) rfl ?_
  refine g_aload_n (pc' := 344) O ⟨dL_law_343, rfl⟩ (q := 3) rfl rfl ?_
  obtain ⟨r_3, c_4, E⟩ := bd_of E
  refine g_Ui (pc' := 347) O ⟨dL_law_344, rfl⟩ (y := yX11_take) (As := []) (st := []) (subM ad cy r_1.2) (t_X11_take l D (fun k => ad (35 + k)) cy (h := r_1.2.2.1) c_4) kw_1183 kw_70 kw_1180 kw_1181 kw_1182 rfl (wL_35 ad cy r_1.2) hd_X11_take ⟨Nat.le_trans (Nat.le_of_ble_eq_true rfl) hRf.1, Nat.le_trans (Nat.le_of_ble_eq_true rfl) hRf.2⟩ ⟨by omega, by omega⟩ rfl (Nat.le_of_ble_eq_true rfl) ?_
  refine g_nmh E (fun s_5 E => ?_)
  refine g_istore (pc' := 349) O ⟨dL_law_347, rfl⟩ (lv' := [(6, .int r_3.1), (5, .int r_1.1), (0, .ref b), (1, .ref (ad 0)), (2, .ref (ad 35)), (3, .ref (ad 54)), (4, .int i)]) (by decide) rfl ?_
  refine g_aload_n (pc' := 350) O ⟨dL_law_349, rfl⟩ (q := 4) rfl rfl ?_
  obtain ⟨r_6, c_7, E⟩ := bd_of E
  refine g_Ui (pc' := 353) O ⟨dL_law_350, rfl⟩ (y := yX11_thrown) (As := []) (st := []) (subM ad cy s_5) (t_X11_thrown l D (fun k => ad (35 + k)) cy (h := s_5.2.1) c_7) kw_1160 kw_70 kw_1157 kw_1158 kw_1159 rfl (wL_35 ad cy s_5) hd_X11_thrown ⟨Nat.le_trans (Nat.le_of_ble_eq_true rfl) hRf.1, Nat.le_trans (Nat.le_of_ble_eq_true rfl) hRf.2⟩ ⟨by omega, by omega⟩ rfl (Nat.le_of_ble_eq_true rfl) ?_
  refine g_nmh E (fun s_8 E => ?_)
  refine g_iload (pc' := 355) O ⟨dL_law_353, rfl⟩ (q := 1) rfl ?_
  refine g_icmp_eq (pc' := 358) O ⟨dL_law_355, rfl⟩ E (tgt := 360) (by decide) (fun E => ?_) (fun E => ?_)
  · refine g_iload (pc' := 362) O ⟨dL_law_360, rfl⟩ (q := 1) rfl ?_
    refine jn0_of (P := G l D X 8 (LW ad cy) (k0 + 1) (n0 + 6) s_8 377 [(0, .ref b), (1, .ref (ad 0)), (2, .ref (ad 35)), (3, .ref (ad 54)), (4, .int i)] []) E ?_ ?_
    · intro E
      show G l D X 8 (LW ad cy) (k0 + 1) (n0 + 6) s_8 377 [(0, .ref b), (1, .ref (ad 0)), (2, .ref (ad 35)), (3, .ref (ad 54)), (4, .int i)] []
      refine g_goto (pc' := 380) O ⟨dL_law_377, rfl⟩ (tgt := 1943) (by decide) ?_
      exact g_widen (by omega) (by omega) (hko _ E)
    · intro k377 hk377 E
      refine g_if_ne (pc' := 365) O ⟨dL_law_362, rfl⟩ E (tgt := 377) (by decide) (fun E => ?_) (fun E => ?_)
      · refine g_sub (lv' := [(0, .ref b), (1, .ref (ad 0)), (2, .ref (ad 35)), (3, .ref (ad 54)), (4, .int i)]) [2, 3, 4, 5, 6] rfl ?_
        exact hk377 E
      · refine g_aload_n (pc' := 366) O ⟨dL_law_365, rfl⟩ (q := 5) rfl rfl ?_
        refine g_iconst (pc' := 367) O ⟨dL_law_366, rfl⟩ (v := (0 : Int32)) rfl ?_
        refine g_lald (pc' := 368) O ⟨dL_law_367, rfl⟩ (wL_54 ad cy s_8) E (fun E => ?_)
        refine g_iload (pc' := 370) O ⟨dL_law_368, rfl⟩ (q := 0) rfl ?_
        refine g_i2l (pc' := 371) O ⟨dL_law_370, rfl⟩ ?_
        refine g_lcmp (pc' := 372) O ⟨dL_law_371, rfl⟩ ?_
        refine g_if_eq (pc' := 375) O ⟨dL_law_372, rfl⟩ E (tgt := 377) (by decide) (fun E => ?_) (fun E => ?_)
        · refine g_sub (lv' := [(0, .ref b), (1, .ref (ad 0)), (2, .ref (ad 35)), (3, .ref (ad 54)), (4, .int i)]) [2, 3, 4, 5, 6] rfl ?_
          exact hk377 E
        · refine g_iconst (pc' := 376) O ⟨dL_law_375, rfl⟩ (v := (0 : Int32)) rfl ?_
          cases E
  · refine g_iconst (pc' := 359) O ⟨dL_law_358, rfl⟩ (v := (0 : Int32)) rfl ?_
    cases E
set_option maxRecDepth 100000 in
set_option maxHeartbeats 4000000 in
theorem tc_3 (l : Launch) (D : va_G) (ad : Nat → Nat) (cy : Nat → ClassId) (hfl : l.stackTraces = false) {X : Cx} {R : Room} {b L : Nat} {xs : Nat → Int32} (O : Ok l D cy X cL_law RL 8 R) (hN : NCX X) (hX : SX X b L xs) (hRf : 300 ≤ R.frames ∧ 9000 ≤ R.locals) {k0 n0 : Nat} (hk : k0 + 8 ≤ R.cells ∧ n0 + 48 ≤ R.slots) {i : Int32} {s : LWS} {kont : LWS → Option Unit} {o : Unit} (E : lc_3 L xs i s kont = some o) (hko : ∀ s1, kont s1 = some o → G l D X 8 (LW ad cy) (k0 + 8) (n0 + 48) s1 1943 [(0, .ref b), (1, .ref (ad 0)), (2, .ref (ad 35)), (3, .ref (ad 54)), (4, .int i)] []) : G l D X 8 (LW ad cy) k0 n0 s 380 [(0, .ref b), (1, .ref (ad 0)), (2, .ref (ad 35)), (3, .ref (ad 54)), (4, .int i)] [] := by
  obtain ⟨hk1, hk2⟩ := hk
  unfold lc_3 at E
  refine g_aload_n (pc' := 381) O ⟨dL_law_380, rfl⟩ (q := 1) rfl rfl ?_
  refine g_aload_n (pc' := 382) O ⟨dL_law_381, rfl⟩ (q := 0) rfl rfl ?_
  refine g_iload (pc' := 384) O ⟨dL_law_382, rfl⟩ (q := 4) rfl ?_
  refine g_iconst (pc' := 385) O ⟨dL_law_384, rfl⟩ (v := (1 : Int32)) rfl ?_
  refine g_iadd (pc' := 386) O ⟨dL_law_385, rfl⟩ ?_
  refine g_sld (pc' := 387) O ⟨dL_law_386, rfl⟩ hX E (fun E => ?_)
  refine g_aload_n (pc' := 388) O ⟨dL_law_387, rfl⟩ (q := 3) rfl rfl ?_
  obtain ⟨r_1, c_2, E⟩ := bd_of E
  refine g_H (pc' := 391) O hN ⟨dL_law_388, rfl⟩ (y := yL_make) (As := [.ref (ad 0), .int (xs (i + (1 : Int32)).toNatClampNeg), .ref (ad 54)]) (st := []) (th_make l D ad cy hfl (s := s) c_2) kw_702 kw_59 kw_700 kw_701 hd_L_make ⟨Nat.le_trans (Nat.le_of_ble_eq_true rfl) hRf.1, Nat.le_trans (Nat.le_of_ble_eq_true rfl) hRf.2⟩ ⟨by omega, by omega⟩ rfl (Nat.le_of_ble_eq_true rfl) ?_
  refine g_istore (pc' := 393) O ⟨dL_law_391, rfl⟩ (lv' := [(5, .int r_1.1), (0, .ref b), (1, .ref (ad 0)), (2, .ref (ad 35)), (3, .ref (ad 54)), (4, .int i)]) (by decide) rfl ?_
  refine g_aload_n (pc' := 394) O ⟨dL_law_393, rfl⟩ (q := 3) rfl rfl ?_
  refine g_aload_n (pc' := 395) O ⟨dL_law_394, rfl⟩ (q := 1) rfl rfl ?_
  refine g_iload (pc' := 397) O ⟨dL_law_395, rfl⟩ (q := 5) rfl ?_
  refine g_iconst (pc' := 398) O ⟨dL_law_397, rfl⟩ (v := (1 : Int32)) rfl ?_
  refine g_iadd (pc' := 399) O ⟨dL_law_398, rfl⟩ ?_
  refine g_sld (pc' := 400) O ⟨dL_law_399, rfl⟩ hX E (fun E => ?_)
  obtain ⟨r_3, c_4, E⟩ := bd_of E
  refine g_Ui (pc' := 403) O ⟨dL_law_400, rfl⟩ (y := yX11_make) (As := [.int (xs (i + (1 : Int32)).toNatClampNeg)]) (st := []) (subM ad cy r_1.2) (t_X11_make l D (fun k => ad (35 + k)) cy (h := r_1.2.2.1) c_4) kw_1187 kw_70 kw_1184 kw_1185 kw_1186 rfl (wL_35 ad cy r_1.2) hd_X11_make ⟨Nat.le_trans (Nat.le_of_ble_eq_true rfl) hRf.1, Nat.le_trans (Nat.le_of_ble_eq_true rfl) hRf.2⟩ ⟨by omega, by omega⟩ rfl (Nat.le_of_ble_eq_true rfl) ?_
  refine g_nmh E (fun s_5 E => ?_)
  refine g_istore (pc' := 405) O ⟨dL_law_403, rfl⟩ (lv' := [(6, .int r_3.1), (5, .int r_1.1), (0, .ref b), (1, .ref (ad 0)), (2, .ref (ad 35)), (3, .ref (ad 54)), (4, .int i)]) (by decide) rfl ?_
  refine g_aload_n (pc' := 406) O ⟨dL_law_405, rfl⟩ (q := 4) rfl rfl ?_
  obtain ⟨r_6, c_7, E⟩ := bd_of E
  refine g_Ui (pc' := 409) O ⟨dL_law_406, rfl⟩ (y := yX11_thrown) (As := []) (st := []) (subM ad cy s_5) (t_X11_thrown l D (fun k => ad (35 + k)) cy (h := s_5.2.1) c_7) kw_1160 kw_70 kw_1157 kw_1158 kw_1159 rfl (wL_35 ad cy s_5) hd_X11_thrown ⟨Nat.le_trans (Nat.le_of_ble_eq_true rfl) hRf.1, Nat.le_trans (Nat.le_of_ble_eq_true rfl) hRf.2⟩ ⟨by omega, by omega⟩ rfl (Nat.le_of_ble_eq_true rfl) ?_
  refine g_nmh E (fun s_8 E => ?_)
  refine g_iload (pc' := 411) O ⟨dL_law_409, rfl⟩ (q := 1) rfl ?_
  refine g_icmp_eq (pc' := 414) O ⟨dL_law_411, rfl⟩ E (tgt := 416) (by decide) (fun E => ?_) (fun E => ?_)
  · refine g_iload (pc' := 418) O ⟨dL_law_416, rfl⟩ (q := 1) rfl ?_
    refine jn0_of (P := G l D X 8 (LW ad cy) (k0 + 2) (n0 + 12) s_8 433 [(0, .ref b), (1, .ref (ad 0)), (2, .ref (ad 35)), (3, .ref (ad 54)), (4, .int i)] []) E ?_ ?_
    · intro E
      show G l D X 8 (LW ad cy) (k0 + 2) (n0 + 12) s_8 433 [(0, .ref b), (1, .ref (ad 0)), (2, .ref (ad 35)), (3, .ref (ad 54)), (4, .int i)] []
      refine g_goto (pc' := 436) O ⟨dL_law_433, rfl⟩ (tgt := 1943) (by decide) ?_
      exact g_widen (by omega) (by omega) (hko _ E)
    · intro k433 hk433 E
      refine g_if_ne (pc' := 421) O ⟨dL_law_418, rfl⟩ E (tgt := 433) (by decide) (fun E => ?_) (fun E => ?_)
      · refine g_sub (lv' := [(0, .ref b), (1, .ref (ad 0)), (2, .ref (ad 35)), (3, .ref (ad 54)), (4, .int i)]) [2, 3, 4, 5, 6] rfl ?_
        exact hk433 E
      · refine g_aload_n (pc' := 422) O ⟨dL_law_421, rfl⟩ (q := 5) rfl rfl ?_
        refine g_iconst (pc' := 423) O ⟨dL_law_422, rfl⟩ (v := (0 : Int32)) rfl ?_
        refine g_lald (pc' := 424) O ⟨dL_law_423, rfl⟩ (wL_54 ad cy s_8) E (fun E => ?_)
        refine g_iload (pc' := 426) O ⟨dL_law_424, rfl⟩ (q := 0) rfl ?_
        refine g_i2l (pc' := 427) O ⟨dL_law_426, rfl⟩ ?_
        refine g_lcmp (pc' := 428) O ⟨dL_law_427, rfl⟩ ?_
        refine g_if_eq (pc' := 431) O ⟨dL_law_428, rfl⟩ E (tgt := 433) (by decide) (fun E => ?_) (fun E => ?_)
        · refine g_sub (lv' := [(0, .ref b), (1, .ref (ad 0)), (2, .ref (ad 35)), (3, .ref (ad 54)), (4, .int i)]) [2, 3, 4, 5, 6] rfl ?_
          exact hk433 E
        · refine g_iconst (pc' := 432) O ⟨dL_law_431, rfl⟩ (v := (0 : Int32)) rfl ?_
          cases E
  · refine g_iconst (pc' := 415) O ⟨dL_law_414, rfl⟩ (v := (0 : Int32)) rfl ?_
    cases E
set_option maxRecDepth 100000 in
set_option maxHeartbeats 4000000 in
theorem tc_4 (l : Launch) (D : va_G) (ad : Nat → Nat) (cy : Nat → ClassId) (hfl : l.stackTraces = false) {X : Cx} {R : Room} {b L : Nat} {xs : Nat → Int32} (O : Ok l D cy X cL_law RL 8 R) (hN : NCX X) (hX : SX X b L xs) (hRf : 300 ≤ R.frames ∧ 9000 ≤ R.locals) {k0 n0 : Nat} (hk : k0 + 8 ≤ R.cells ∧ n0 + 48 ≤ R.slots) {i : Int32} {s : LWS} {kont : LWS → Option Unit} {o : Unit} (E : lc_4 L xs i s kont = some o) (hko : ∀ s1, kont s1 = some o → G l D X 8 (LW ad cy) (k0 + 8) (n0 + 48) s1 1943 [(0, .ref b), (1, .ref (ad 0)), (2, .ref (ad 35)), (3, .ref (ad 54)), (4, .int i)] []) : G l D X 8 (LW ad cy) k0 n0 s 436 [(0, .ref b), (1, .ref (ad 0)), (2, .ref (ad 35)), (3, .ref (ad 54)), (4, .int i)] [] := by
  obtain ⟨hk1, hk2⟩ := hk
  unfold lc_4 at E
  refine g_aload_n (pc' := 437) O ⟨dL_law_436, rfl⟩ (q := 1) rfl rfl ?_
  obtain ⟨r_1, c_2, E⟩ := bd_of E
  refine g_Uv (pc' := 440) O ⟨dL_law_437, rfl⟩ (y := yX10_mirror) (As := []) (st := []) (subC ad cy s) (t_X10_mirror l D ad cy (h := s.1) c_2) kw_293 kw_60 kw_290 kw_291 kw_292 rfl (wL_0 ad cy s) hd_X10_mirror ⟨Nat.le_trans (Nat.le_of_ble_eq_true rfl) hRf.1, Nat.le_trans (Nat.le_of_ble_eq_true rfl) hRf.2⟩ ⟨by omega, by omega⟩ rfl (Nat.le_of_ble_eq_true rfl) ?_
  refine g_nmh E (fun s_3 E => ?_)
  refine g_aload_n (pc' := 441) O ⟨dL_law_440, rfl⟩ (q := 2) rfl rfl ?_
  obtain ⟨r_4, c_5, E⟩ := bd_of E
  refine g_Uv (pc' := 444) O ⟨dL_law_441, rfl⟩ (y := yX11_mirror) (As := []) (st := []) (subM ad cy s_3) (t_X11_mirror l D (fun k => ad (35 + k)) cy (h := s_3.2.1) c_5) kw_1199 kw_70 kw_1196 kw_1197 kw_1198 rfl (wL_35 ad cy s_3) hd_X11_mirror ⟨Nat.le_trans (Nat.le_of_ble_eq_true rfl) hRf.1, Nat.le_trans (Nat.le_of_ble_eq_true rfl) hRf.2⟩ ⟨by omega, by omega⟩ rfl (Nat.le_of_ble_eq_true rfl) ?_
  refine g_nmh E (fun s_6 E => ?_)
  refine g_goto (pc' := 447) O ⟨dL_law_444, rfl⟩ (tgt := 1943) (by decide) ?_
  exact g_widen (by omega) (by omega) (hko _ E)
set_option maxRecDepth 100000 in
set_option maxHeartbeats 4000000 in
theorem tc_5 (l : Launch) (D : va_G) (ad : Nat → Nat) (cy : Nat → ClassId) (hfl : l.stackTraces = false) {X : Cx} {R : Room} {b L : Nat} {xs : Nat → Int32} (O : Ok l D cy X cL_law RL 8 R) (hN : NCX X) (hX : SX X b L xs) (hRf : 300 ≤ R.frames ∧ 9000 ≤ R.locals) {k0 n0 : Nat} (hk : k0 + 8 ≤ R.cells ∧ n0 + 48 ≤ R.slots) {i : Int32} {s : LWS} {kont : LWS → Option Unit} {o : Unit} (E : lc_5 L xs i s kont = some o) (hko : ∀ s1, kont s1 = some o → G l D X 8 (LW ad cy) (k0 + 8) (n0 + 48) s1 1943 [(0, .ref b), (1, .ref (ad 0)), (2, .ref (ad 35)), (3, .ref (ad 54)), (4, .int i)] []) : G l D X 8 (LW ad cy) k0 n0 s 447 [(0, .ref b), (1, .ref (ad 0)), (2, .ref (ad 35)), (3, .ref (ad 54)), (4, .int i)] [] := by
  obtain ⟨hk1, hk2⟩ := hk
  unfold lc_5 at E
  refine g_aload_n (pc' := 448) O ⟨dL_law_447, rfl⟩ (q := 1) rfl rfl ?_
  obtain ⟨r_1, c_2, E⟩ := bd_of E
  refine g_Ui (pc' := 451) O ⟨dL_law_448, rfl⟩ (y := yX10_untangle) (As := []) (st := []) (subC ad cy s) (t_X10_untangle l D ad cy (h := s.1) c_2) kw_313 kw_60 kw_310 kw_311 kw_312 rfl (wL_0 ad cy s) hd_X10_untangle ⟨Nat.le_trans (Nat.le_of_ble_eq_true rfl) hRf.1, Nat.le_trans (Nat.le_of_ble_eq_true rfl) hRf.2⟩ ⟨by omega, by omega⟩ rfl (Nat.le_of_ble_eq_true rfl) ?_
  refine g_nmh E (fun s_3 E => ?_)
  refine g_aload_n (pc' := 452) O ⟨dL_law_451, rfl⟩ (q := 2) rfl rfl ?_
  obtain ⟨r_4, c_5, E⟩ := bd_of E
  refine g_Ui (pc' := 455) O ⟨dL_law_452, rfl⟩ (y := yX11_untangle) (As := []) (st := [.int r_1.1]) (subM ad cy s_3) (t_X11_untangle l D (fun k => ad (35 + k)) cy (h := s_3.2.1) c_5) kw_1203 kw_70 kw_1200 kw_1201 kw_1202 rfl (wL_35 ad cy s_3) hd_X11_untangle ⟨Nat.le_trans (Nat.le_of_ble_eq_true rfl) hRf.1, Nat.le_trans (Nat.le_of_ble_eq_true rfl) hRf.2⟩ ⟨by omega, by omega⟩ rfl (Nat.le_of_ble_eq_true rfl) ?_
  refine g_nmh E (fun s_6 E => ?_)
  refine g_icmp_eq (pc' := 458) O ⟨dL_law_455, rfl⟩ E (tgt := 1943) (by decide) (fun E => ?_) (fun E => ?_)
  · exact g_widen (by omega) (by omega) (hko _ E)
  · refine g_iconst (pc' := 459) O ⟨dL_law_458, rfl⟩ (v := (0 : Int32)) rfl ?_
    cases E
set_option maxRecDepth 100000 in
set_option maxHeartbeats 4000000 in
theorem tc_6 (l : Launch) (D : va_G) (ad : Nat → Nat) (cy : Nat → ClassId) (hfl : l.stackTraces = false) {X : Cx} {R : Room} {b L : Nat} {xs : Nat → Int32} (O : Ok l D cy X cL_law RL 8 R) (hN : NCX X) (hX : SX X b L xs) (hRf : 300 ≤ R.frames ∧ 9000 ≤ R.locals) {k0 n0 : Nat} (hk : k0 + 8 ≤ R.cells ∧ n0 + 48 ≤ R.slots) {i : Int32} {s : LWS} {kont : LWS → Option Unit} {o : Unit} (E : lc_6 L xs i s kont = some o) (hko : ∀ s1, kont s1 = some o → G l D X 8 (LW ad cy) (k0 + 8) (n0 + 48) s1 1943 [(0, .ref b), (1, .ref (ad 0)), (2, .ref (ad 35)), (3, .ref (ad 54)), (4, .int i)] []) : G l D X 8 (LW ad cy) k0 n0 s 460 [(0, .ref b), (1, .ref (ad 0)), (2, .ref (ad 35)), (3, .ref (ad 54)), (4, .int i)] [] := by
  obtain ⟨hk1, hk2⟩ := hk
  unfold lc_6 at E
  refine g_aload_n (pc' := 461) O ⟨dL_law_460, rfl⟩ (q := 1) rfl rfl ?_
  obtain ⟨r_1, c_2, E⟩ := bd_of E
  refine g_Ui (pc' := 464) O ⟨dL_law_461, rfl⟩ (y := yX10_prune) (As := []) (st := []) (subC ad cy s) (t_X10_prune l D ad cy (h := s.1) c_2) kw_332 kw_60 kw_329 kw_330 kw_331 rfl (wL_0 ad cy s) hd_X10_prune ⟨Nat.le_trans (Nat.le_of_ble_eq_true rfl) hRf.1, Nat.le_trans (Nat.le_of_ble_eq_true rfl) hRf.2⟩ ⟨by omega, by omega⟩ rfl (Nat.le_of_ble_eq_true rfl) ?_
  refine g_nmh E (fun s_3 E => ?_)
  refine g_aload_n (pc' := 465) O ⟨dL_law_464, rfl⟩ (q := 2) rfl rfl ?_
  obtain ⟨r_4, c_5, E⟩ := bd_of E
  refine g_Ui (pc' := 468) O ⟨dL_law_465, rfl⟩ (y := yX11_prune) (As := []) (st := [.int r_1.1]) (subM ad cy s_3) (t_X11_prune l D (fun k => ad (35 + k)) cy (h := s_3.2.1) c_5) kw_1210 kw_70 kw_1207 kw_1208 kw_1209 rfl (wL_35 ad cy s_3) hd_X11_prune ⟨Nat.le_trans (Nat.le_of_ble_eq_true rfl) hRf.1, Nat.le_trans (Nat.le_of_ble_eq_true rfl) hRf.2⟩ ⟨by omega, by omega⟩ rfl (Nat.le_of_ble_eq_true rfl) ?_
  refine g_nmh E (fun s_6 E => ?_)
  refine g_icmp_eq (pc' := 471) O ⟨dL_law_468, rfl⟩ E (tgt := 1943) (by decide) (fun E => ?_) (fun E => ?_)
  · exact g_widen (by omega) (by omega) (hko _ E)
  · refine g_iconst (pc' := 472) O ⟨dL_law_471, rfl⟩ (v := (0 : Int32)) rfl ?_
    cases E
set_option maxRecDepth 100000 in
set_option maxHeartbeats 4000000 in
theorem tc_7 (l : Launch) (D : va_G) (ad : Nat → Nat) (cy : Nat → ClassId) (hfl : l.stackTraces = false) {X : Cx} {R : Room} {b L : Nat} {xs : Nat → Int32} (O : Ok l D cy X cL_law RL 8 R) (hN : NCX X) (hX : SX X b L xs) (hRf : 300 ≤ R.frames ∧ 9000 ≤ R.locals) {k0 n0 : Nat} (hk : k0 + 8 ≤ R.cells ∧ n0 + 48 ≤ R.slots) {i : Int32} {s : LWS} {kont : LWS → Option Unit} {o : Unit} (E : lc_7 L xs i s kont = some o) (hko : ∀ s1, kont s1 = some o → G l D X 8 (LW ad cy) (k0 + 8) (n0 + 48) s1 1943 [(0, .ref b), (1, .ref (ad 0)), (2, .ref (ad 35)), (3, .ref (ad 54)), (4, .int i)] []) : G l D X 8 (LW ad cy) k0 n0 s 473 [(0, .ref b), (1, .ref (ad 0)), (2, .ref (ad 35)), (3, .ref (ad 54)), (4, .int i)] [] := by
  obtain ⟨hk1, hk2⟩ := hk
  unfold lc_7 at E
  refine g_aload_n (pc' := 474) O ⟨dL_law_473, rfl⟩ (q := 1) rfl rfl ?_
  refine g_aload_n (pc' := 475) O ⟨dL_law_474, rfl⟩ (q := 0) rfl rfl ?_
  refine g_iload (pc' := 477) O ⟨dL_law_475, rfl⟩ (q := 4) rfl ?_
  refine g_iconst (pc' := 478) O ⟨dL_law_477, rfl⟩ (v := (1 : Int32)) rfl ?_
  refine g_iadd (pc' := 479) O ⟨dL_law_478, rfl⟩ ?_
  refine g_sld (pc' := 480) O ⟨dL_law_479, rfl⟩ hX E (fun E => ?_)
  refine g_aload_n (pc' := 481) O ⟨dL_law_480, rfl⟩ (q := 3) rfl rfl ?_
  obtain ⟨r_1, c_2, E⟩ := bd_of E
  refine g_H (pc' := 484) O hN ⟨dL_law_481, rfl⟩ (y := yL_told) (As := [.ref (ad 0), .int (xs (i + (1 : Int32)).toNatClampNeg), .ref (ad 54)]) (st := []) (th_told l D ad cy hfl (s := s) c_2) kw_731 kw_59 kw_729 kw_730 hd_L_told ⟨Nat.le_trans (Nat.le_of_ble_eq_true rfl) hRf.1, Nat.le_trans (Nat.le_of_ble_eq_true rfl) hRf.2⟩ ⟨by omega, by omega⟩ rfl (Nat.le_of_ble_eq_true rfl) ?_
  refine g_istore (pc' := 486) O ⟨dL_law_484, rfl⟩ (lv' := [(5, .int r_1.1), (0, .ref b), (1, .ref (ad 0)), (2, .ref (ad 35)), (3, .ref (ad 54)), (4, .int i)]) (by decide) rfl ?_
  refine g_aload_n (pc' := 487) O ⟨dL_law_486, rfl⟩ (q := 3) rfl rfl ?_
  refine g_aload_n (pc' := 488) O ⟨dL_law_487, rfl⟩ (q := 1) rfl rfl ?_
  refine g_iload (pc' := 490) O ⟨dL_law_488, rfl⟩ (q := 5) rfl ?_
  refine g_iconst (pc' := 491) O ⟨dL_law_490, rfl⟩ (v := (1 : Int32)) rfl ?_
  refine g_iadd (pc' := 492) O ⟨dL_law_491, rfl⟩ ?_
  refine g_sld (pc' := 493) O ⟨dL_law_492, rfl⟩ hX E (fun E => ?_)
  obtain ⟨r_3, c_4, E⟩ := bd_of E
  refine g_Ui (pc' := 496) O ⟨dL_law_493, rfl⟩ (y := yX11_told) (As := [.int (xs (i + (1 : Int32)).toNatClampNeg)]) (st := []) (subM ad cy r_1.2) (t_X11_told l D (fun k => ad (35 + k)) cy (h := r_1.2.2.1) c_4) kw_1222 kw_70 kw_1219 kw_1220 kw_1221 rfl (wL_35 ad cy r_1.2) hd_X11_told ⟨Nat.le_trans (Nat.le_of_ble_eq_true rfl) hRf.1, Nat.le_trans (Nat.le_of_ble_eq_true rfl) hRf.2⟩ ⟨by omega, by omega⟩ rfl (Nat.le_of_ble_eq_true rfl) ?_
  refine g_nmh E (fun s_5 E => ?_)
  refine g_istore (pc' := 498) O ⟨dL_law_496, rfl⟩ (lv' := [(6, .int r_3.1), (5, .int r_1.1), (0, .ref b), (1, .ref (ad 0)), (2, .ref (ad 35)), (3, .ref (ad 54)), (4, .int i)]) (by decide) rfl ?_
  refine g_aload_n (pc' := 499) O ⟨dL_law_498, rfl⟩ (q := 4) rfl rfl ?_
  obtain ⟨r_6, c_7, E⟩ := bd_of E
  refine g_Ui (pc' := 502) O ⟨dL_law_499, rfl⟩ (y := yX11_thrown) (As := []) (st := []) (subM ad cy s_5) (t_X11_thrown l D (fun k => ad (35 + k)) cy (h := s_5.2.1) c_7) kw_1160 kw_70 kw_1157 kw_1158 kw_1159 rfl (wL_35 ad cy s_5) hd_X11_thrown ⟨Nat.le_trans (Nat.le_of_ble_eq_true rfl) hRf.1, Nat.le_trans (Nat.le_of_ble_eq_true rfl) hRf.2⟩ ⟨by omega, by omega⟩ rfl (Nat.le_of_ble_eq_true rfl) ?_
  refine g_nmh E (fun s_8 E => ?_)
  refine g_iload (pc' := 504) O ⟨dL_law_502, rfl⟩ (q := 1) rfl ?_
  refine g_icmp_eq (pc' := 507) O ⟨dL_law_504, rfl⟩ E (tgt := 509) (by decide) (fun E => ?_) (fun E => ?_)
  · refine g_iload (pc' := 511) O ⟨dL_law_509, rfl⟩ (q := 1) rfl ?_
    refine jn0_of (P := G l D X 8 (LW ad cy) (k0 + 1) (n0 + 6) s_8 526 [(0, .ref b), (1, .ref (ad 0)), (2, .ref (ad 35)), (3, .ref (ad 54)), (4, .int i)] []) E ?_ ?_
    · intro E
      show G l D X 8 (LW ad cy) (k0 + 1) (n0 + 6) s_8 526 [(0, .ref b), (1, .ref (ad 0)), (2, .ref (ad 35)), (3, .ref (ad 54)), (4, .int i)] []
      refine g_goto (pc' := 529) O ⟨dL_law_526, rfl⟩ (tgt := 1943) (by decide) ?_
      exact g_widen (by omega) (by omega) (hko _ E)
    · intro k526 hk526 E
      refine g_if_ne (pc' := 514) O ⟨dL_law_511, rfl⟩ E (tgt := 526) (by decide) (fun E => ?_) (fun E => ?_)
      · refine g_sub (lv' := [(0, .ref b), (1, .ref (ad 0)), (2, .ref (ad 35)), (3, .ref (ad 54)), (4, .int i)]) [2, 3, 4, 5, 6] rfl ?_
        exact hk526 E
      · refine g_aload_n (pc' := 515) O ⟨dL_law_514, rfl⟩ (q := 5) rfl rfl ?_
        refine g_iconst (pc' := 516) O ⟨dL_law_515, rfl⟩ (v := (0 : Int32)) rfl ?_
        refine g_lald (pc' := 517) O ⟨dL_law_516, rfl⟩ (wL_54 ad cy s_8) E (fun E => ?_)
        refine g_iload (pc' := 519) O ⟨dL_law_517, rfl⟩ (q := 0) rfl ?_
        refine g_i2l (pc' := 520) O ⟨dL_law_519, rfl⟩ ?_
        refine g_lcmp (pc' := 521) O ⟨dL_law_520, rfl⟩ ?_
        refine g_if_eq (pc' := 524) O ⟨dL_law_521, rfl⟩ E (tgt := 526) (by decide) (fun E => ?_) (fun E => ?_)
        · refine g_sub (lv' := [(0, .ref b), (1, .ref (ad 0)), (2, .ref (ad 35)), (3, .ref (ad 54)), (4, .int i)]) [2, 3, 4, 5, 6] rfl ?_
          exact hk526 E
        · refine g_iconst (pc' := 525) O ⟨dL_law_524, rfl⟩ (v := (0 : Int32)) rfl ?_
          cases E
  · refine g_iconst (pc' := 508) O ⟨dL_law_507, rfl⟩ (v := (0 : Int32)) rfl ?_
    cases E
set_option maxRecDepth 100000 in
set_option maxHeartbeats 4000000 in
theorem tc_8 (l : Launch) (D : va_G) (ad : Nat → Nat) (cy : Nat → ClassId) (hfl : l.stackTraces = false) {X : Cx} {R : Room} {b L : Nat} {xs : Nat → Int32} (O : Ok l D cy X cL_law RL 8 R) (hN : NCX X) (hX : SX X b L xs) (hRf : 300 ≤ R.frames ∧ 9000 ≤ R.locals) {k0 n0 : Nat} (hk : k0 + 8 ≤ R.cells ∧ n0 + 48 ≤ R.slots) {i : Int32} {s : LWS} {kont : LWS → Option Unit} {o : Unit} (E : lc_8 L xs i s kont = some o) (hko : ∀ s1, kont s1 = some o → G l D X 8 (LW ad cy) (k0 + 8) (n0 + 48) s1 1943 [(0, .ref b), (1, .ref (ad 0)), (2, .ref (ad 35)), (3, .ref (ad 54)), (4, .int i)] []) : G l D X 8 (LW ad cy) k0 n0 s 529 [(0, .ref b), (1, .ref (ad 0)), (2, .ref (ad 35)), (3, .ref (ad 54)), (4, .int i)] [] := by
  obtain ⟨hk1, hk2⟩ := hk
  unfold lc_8 at E
  refine g_aload_n (pc' := 530) O ⟨dL_law_529, rfl⟩ (q := 1) rfl rfl ?_
  refine g_aload_n (pc' := 531) O ⟨dL_law_530, rfl⟩ (q := 0) rfl rfl ?_
  refine g_iload (pc' := 533) O ⟨dL_law_531, rfl⟩ (q := 4) rfl ?_
  refine g_iconst (pc' := 534) O ⟨dL_law_533, rfl⟩ (v := (1 : Int32)) rfl ?_
  refine g_iadd (pc' := 535) O ⟨dL_law_534, rfl⟩ ?_
  refine g_sld (pc' := 536) O ⟨dL_law_535, rfl⟩ hX E (fun E => ?_)
  refine g_aload_n (pc' := 537) O ⟨dL_law_536, rfl⟩ (q := 0) rfl rfl ?_
  refine g_iload (pc' := 539) O ⟨dL_law_537, rfl⟩ (q := 4) rfl ?_
  refine g_iconst (pc' := 540) O ⟨dL_law_539, rfl⟩ (v := (2 : Int32)) rfl ?_
  refine g_iadd (pc' := 541) O ⟨dL_law_540, rfl⟩ ?_
  refine g_sld (pc' := 542) O ⟨dL_law_541, rfl⟩ hX E (fun E => ?_)
  refine g_aload_n (pc' := 543) O ⟨dL_law_542, rfl⟩ (q := 3) rfl rfl ?_
  obtain ⟨r_1, c_2, E⟩ := bd_of E
  refine g_H (pc' := 546) O hN ⟨dL_law_543, rfl⟩ (y := yL_comparator) (As := [.ref (ad 0), .int (xs (i + (1 : Int32)).toNatClampNeg), .int (xs (i + (2 : Int32)).toNatClampNeg), .ref (ad 54)]) (st := []) (th_comparator l D ad cy hfl (s := s) c_2) kw_760 kw_59 kw_758 kw_759 hd_L_comparator ⟨Nat.le_trans (Nat.le_of_ble_eq_true rfl) hRf.1, Nat.le_trans (Nat.le_of_ble_eq_true rfl) hRf.2⟩ ⟨by omega, by omega⟩ rfl (Nat.le_of_ble_eq_true rfl) ?_
  refine g_istore (pc' := 548) O ⟨dL_law_546, rfl⟩ (lv' := [(5, .int r_1.1), (0, .ref b), (1, .ref (ad 0)), (2, .ref (ad 35)), (3, .ref (ad 54)), (4, .int i)]) (by decide) rfl ?_
  refine g_aload_n (pc' := 549) O ⟨dL_law_548, rfl⟩ (q := 3) rfl rfl ?_
  refine g_aload_n (pc' := 550) O ⟨dL_law_549, rfl⟩ (q := 1) rfl rfl ?_
  refine g_iload (pc' := 552) O ⟨dL_law_550, rfl⟩ (q := 5) rfl ?_
  refine g_iconst (pc' := 553) O ⟨dL_law_552, rfl⟩ (v := (1 : Int32)) rfl ?_
  refine g_iadd (pc' := 554) O ⟨dL_law_553, rfl⟩ ?_
  refine g_sld (pc' := 555) O ⟨dL_law_554, rfl⟩ hX E (fun E => ?_)
  refine g_aload_n (pc' := 556) O ⟨dL_law_555, rfl⟩ (q := 1) rfl rfl ?_
  refine g_iload (pc' := 558) O ⟨dL_law_556, rfl⟩ (q := 5) rfl ?_
  refine g_iconst (pc' := 559) O ⟨dL_law_558, rfl⟩ (v := (2 : Int32)) rfl ?_
  refine g_iadd (pc' := 560) O ⟨dL_law_559, rfl⟩ ?_
  refine g_sld (pc' := 561) O ⟨dL_law_560, rfl⟩ hX E (fun E => ?_)
  obtain ⟨r_3, c_4, E⟩ := bd_of E
  refine g_Ui (pc' := 564) O ⟨dL_law_561, rfl⟩ (y := yX11_comparator) (As := [.int (xs (i + (1 : Int32)).toNatClampNeg), .int (xs (i + (2 : Int32)).toNatClampNeg)]) (st := []) (subM ad cy r_1.2) (t_X11_comparator l D (fun k => ad (35 + k)) cy (h := r_1.2.2.1) c_4) kw_1230 kw_70 kw_1227 kw_1228 kw_1229 rfl (wL_35 ad cy r_1.2) hd_X11_comparator ⟨Nat.le_trans (Nat.le_of_ble_eq_true rfl) hRf.1, Nat.le_trans (Nat.le_of_ble_eq_true rfl) hRf.2⟩ ⟨by omega, by omega⟩ rfl (Nat.le_of_ble_eq_true rfl) ?_
  refine g_nmh E (fun s_5 E => ?_)
  refine g_istore (pc' := 566) O ⟨dL_law_564, rfl⟩ (lv' := [(6, .int r_3.1), (5, .int r_1.1), (0, .ref b), (1, .ref (ad 0)), (2, .ref (ad 35)), (3, .ref (ad 54)), (4, .int i)]) (by decide) rfl ?_
  refine g_aload_n (pc' := 567) O ⟨dL_law_566, rfl⟩ (q := 4) rfl rfl ?_
  obtain ⟨r_6, c_7, E⟩ := bd_of E
  refine g_Ui (pc' := 570) O ⟨dL_law_567, rfl⟩ (y := yX11_thrown) (As := []) (st := []) (subM ad cy s_5) (t_X11_thrown l D (fun k => ad (35 + k)) cy (h := s_5.2.1) c_7) kw_1160 kw_70 kw_1157 kw_1158 kw_1159 rfl (wL_35 ad cy s_5) hd_X11_thrown ⟨Nat.le_trans (Nat.le_of_ble_eq_true rfl) hRf.1, Nat.le_trans (Nat.le_of_ble_eq_true rfl) hRf.2⟩ ⟨by omega, by omega⟩ rfl (Nat.le_of_ble_eq_true rfl) ?_
  refine g_nmh E (fun s_8 E => ?_)
  refine g_iload (pc' := 572) O ⟨dL_law_570, rfl⟩ (q := 1) rfl ?_
  refine g_icmp_eq (pc' := 575) O ⟨dL_law_572, rfl⟩ E (tgt := 577) (by decide) (fun E => ?_) (fun E => ?_)
  · refine g_iload (pc' := 579) O ⟨dL_law_577, rfl⟩ (q := 1) rfl ?_
    refine jn0_of (P := G l D X 8 (LW ad cy) (k0 + 2) (n0 + 12) s_8 594 [(0, .ref b), (1, .ref (ad 0)), (2, .ref (ad 35)), (3, .ref (ad 54)), (4, .int i)] []) E ?_ ?_
    · intro E
      show G l D X 8 (LW ad cy) (k0 + 2) (n0 + 12) s_8 594 [(0, .ref b), (1, .ref (ad 0)), (2, .ref (ad 35)), (3, .ref (ad 54)), (4, .int i)] []
      refine g_goto (pc' := 597) O ⟨dL_law_594, rfl⟩ (tgt := 1943) (by decide) ?_
      exact g_widen (by omega) (by omega) (hko _ E)
    · intro k594 hk594 E
      refine g_if_ne (pc' := 582) O ⟨dL_law_579, rfl⟩ E (tgt := 594) (by decide) (fun E => ?_) (fun E => ?_)
      · refine g_sub (lv' := [(0, .ref b), (1, .ref (ad 0)), (2, .ref (ad 35)), (3, .ref (ad 54)), (4, .int i)]) [2, 3, 4, 5, 6] rfl ?_
        exact hk594 E
      · refine g_aload_n (pc' := 583) O ⟨dL_law_582, rfl⟩ (q := 5) rfl rfl ?_
        refine g_iconst (pc' := 584) O ⟨dL_law_583, rfl⟩ (v := (0 : Int32)) rfl ?_
        refine g_lald (pc' := 585) O ⟨dL_law_584, rfl⟩ (wL_54 ad cy s_8) E (fun E => ?_)
        refine g_iload (pc' := 587) O ⟨dL_law_585, rfl⟩ (q := 0) rfl ?_
        refine g_i2l (pc' := 588) O ⟨dL_law_587, rfl⟩ ?_
        refine g_lcmp (pc' := 589) O ⟨dL_law_588, rfl⟩ ?_
        refine g_if_eq (pc' := 592) O ⟨dL_law_589, rfl⟩ E (tgt := 594) (by decide) (fun E => ?_) (fun E => ?_)
        · refine g_sub (lv' := [(0, .ref b), (1, .ref (ad 0)), (2, .ref (ad 35)), (3, .ref (ad 54)), (4, .int i)]) [2, 3, 4, 5, 6] rfl ?_
          exact hk594 E
        · refine g_iconst (pc' := 593) O ⟨dL_law_592, rfl⟩ (v := (0 : Int32)) rfl ?_
          cases E
  · refine g_iconst (pc' := 576) O ⟨dL_law_575, rfl⟩ (v := (0 : Int32)) rfl ?_
    cases E
set_option maxRecDepth 100000 in
set_option maxHeartbeats 4000000 in
theorem tc_9 (l : Launch) (D : va_G) (ad : Nat → Nat) (cy : Nat → ClassId) (hfl : l.stackTraces = false) {X : Cx} {R : Room} {b L : Nat} {xs : Nat → Int32} (O : Ok l D cy X cL_law RL 8 R) (hN : NCX X) (hX : SX X b L xs) (hRf : 300 ≤ R.frames ∧ 9000 ≤ R.locals) {k0 n0 : Nat} (hk : k0 + 8 ≤ R.cells ∧ n0 + 48 ≤ R.slots) {i : Int32} {s : LWS} {kont : LWS → Option Unit} {o : Unit} (E : lc_9 L xs i s kont = some o) (hko : ∀ s1, kont s1 = some o → G l D X 8 (LW ad cy) (k0 + 8) (n0 + 48) s1 1943 [(0, .ref b), (1, .ref (ad 0)), (2, .ref (ad 35)), (3, .ref (ad 54)), (4, .int i)] []) : G l D X 8 (LW ad cy) k0 n0 s 597 [(0, .ref b), (1, .ref (ad 0)), (2, .ref (ad 35)), (3, .ref (ad 54)), (4, .int i)] [] := by
  obtain ⟨hk1, hk2⟩ := hk
  unfold lc_9 at E
  refine g_aload_n (pc' := 598) O ⟨dL_law_597, rfl⟩ (q := 1) rfl rfl ?_
  refine g_aload_n (pc' := 599) O ⟨dL_law_598, rfl⟩ (q := 0) rfl rfl ?_
  refine g_iload (pc' := 601) O ⟨dL_law_599, rfl⟩ (q := 4) rfl ?_
  refine g_iconst (pc' := 602) O ⟨dL_law_601, rfl⟩ (v := (1 : Int32)) rfl ?_
  refine g_iadd (pc' := 603) O ⟨dL_law_602, rfl⟩ ?_
  refine g_sld (pc' := 604) O ⟨dL_law_603, rfl⟩ hX E (fun E => ?_)
  refine g_aload_n (pc' := 605) O ⟨dL_law_604, rfl⟩ (q := 3) rfl rfl ?_
  obtain ⟨r_1, c_2, E⟩ := bd_of E
  refine g_H (pc' := 608) O hN ⟨dL_law_605, rfl⟩ (y := yL_textAt) (As := [.ref (ad 0), .int (xs (i + (1 : Int32)).toNatClampNeg), .ref (ad 54)]) (st := []) (th_textAt l D ad cy hfl (s := s) c_2) kw_780 kw_59 kw_778 kw_779 hd_L_textAt ⟨Nat.le_trans (Nat.le_of_ble_eq_true rfl) hRf.1, Nat.le_trans (Nat.le_of_ble_eq_true rfl) hRf.2⟩ ⟨by omega, by omega⟩ rfl (Nat.le_of_ble_eq_true rfl) ?_
  refine g_istore (pc' := 610) O ⟨dL_law_608, rfl⟩ (lv' := [(5, .int r_1.1), (0, .ref b), (1, .ref (ad 0)), (2, .ref (ad 35)), (3, .ref (ad 54)), (4, .int i)]) (by decide) rfl ?_
  refine g_aload_n (pc' := 611) O ⟨dL_law_610, rfl⟩ (q := 3) rfl rfl ?_
  refine g_aload_n (pc' := 612) O ⟨dL_law_611, rfl⟩ (q := 1) rfl rfl ?_
  refine g_iload (pc' := 614) O ⟨dL_law_612, rfl⟩ (q := 5) rfl ?_
  refine g_iconst (pc' := 615) O ⟨dL_law_614, rfl⟩ (v := (1 : Int32)) rfl ?_
  refine g_iadd (pc' := 616) O ⟨dL_law_615, rfl⟩ ?_
  refine g_sld (pc' := 617) O ⟨dL_law_616, rfl⟩ hX E (fun E => ?_)
  obtain ⟨r_3, c_4, E⟩ := bd_of E
  refine g_Ui (pc' := 620) O ⟨dL_law_617, rfl⟩ (y := yX11_textAt) (As := [.int (xs (i + (1 : Int32)).toNatClampNeg)]) (st := []) (subM ad cy r_1.2) (t_X11_textAt l D (fun k => ad (35 + k)) cy (h := r_1.2.2.1) c_4) kw_1238 kw_70 kw_1235 kw_1236 kw_1237 rfl (wL_35 ad cy r_1.2) hd_X11_textAt ⟨Nat.le_trans (Nat.le_of_ble_eq_true rfl) hRf.1, Nat.le_trans (Nat.le_of_ble_eq_true rfl) hRf.2⟩ ⟨by omega, by omega⟩ rfl (Nat.le_of_ble_eq_true rfl) ?_
  refine g_nmh E (fun s_5 E => ?_)
  refine g_istore (pc' := 622) O ⟨dL_law_620, rfl⟩ (lv' := [(6, .int r_3.1), (5, .int r_1.1), (0, .ref b), (1, .ref (ad 0)), (2, .ref (ad 35)), (3, .ref (ad 54)), (4, .int i)]) (by decide) rfl ?_
  refine g_aload_n (pc' := 623) O ⟨dL_law_622, rfl⟩ (q := 4) rfl rfl ?_
  obtain ⟨r_6, c_7, E⟩ := bd_of E
  refine g_Ui (pc' := 626) O ⟨dL_law_623, rfl⟩ (y := yX11_thrown) (As := []) (st := []) (subM ad cy s_5) (t_X11_thrown l D (fun k => ad (35 + k)) cy (h := s_5.2.1) c_7) kw_1160 kw_70 kw_1157 kw_1158 kw_1159 rfl (wL_35 ad cy s_5) hd_X11_thrown ⟨Nat.le_trans (Nat.le_of_ble_eq_true rfl) hRf.1, Nat.le_trans (Nat.le_of_ble_eq_true rfl) hRf.2⟩ ⟨by omega, by omega⟩ rfl (Nat.le_of_ble_eq_true rfl) ?_
  refine g_nmh E (fun s_8 E => ?_)
  refine g_iload (pc' := 628) O ⟨dL_law_626, rfl⟩ (q := 1) rfl ?_
  refine g_icmp_eq (pc' := 631) O ⟨dL_law_628, rfl⟩ E (tgt := 633) (by decide) (fun E => ?_) (fun E => ?_)
  · refine g_iload (pc' := 635) O ⟨dL_law_633, rfl⟩ (q := 1) rfl ?_
    refine jn0_of (P := G l D X 8 (LW ad cy) (k0 + 1) (n0 + 6) s_8 650 [(0, .ref b), (1, .ref (ad 0)), (2, .ref (ad 35)), (3, .ref (ad 54)), (4, .int i)] []) E ?_ ?_
    · intro E
      show G l D X 8 (LW ad cy) (k0 + 1) (n0 + 6) s_8 650 [(0, .ref b), (1, .ref (ad 0)), (2, .ref (ad 35)), (3, .ref (ad 54)), (4, .int i)] []
      refine g_goto (pc' := 653) O ⟨dL_law_650, rfl⟩ (tgt := 1943) (by decide) ?_
      exact g_widen (by omega) (by omega) (hko _ E)
    · intro k650 hk650 E
      refine g_if_ne (pc' := 638) O ⟨dL_law_635, rfl⟩ E (tgt := 650) (by decide) (fun E => ?_) (fun E => ?_)
      · refine g_sub (lv' := [(0, .ref b), (1, .ref (ad 0)), (2, .ref (ad 35)), (3, .ref (ad 54)), (4, .int i)]) [2, 3, 4, 5, 6] rfl ?_
        exact hk650 E
      · refine g_aload_n (pc' := 639) O ⟨dL_law_638, rfl⟩ (q := 5) rfl rfl ?_
        refine g_iconst (pc' := 640) O ⟨dL_law_639, rfl⟩ (v := (0 : Int32)) rfl ?_
        refine g_lald (pc' := 641) O ⟨dL_law_640, rfl⟩ (wL_54 ad cy s_8) E (fun E => ?_)
        refine g_iload (pc' := 643) O ⟨dL_law_641, rfl⟩ (q := 0) rfl ?_
        refine g_i2l (pc' := 644) O ⟨dL_law_643, rfl⟩ ?_
        refine g_lcmp (pc' := 645) O ⟨dL_law_644, rfl⟩ ?_
        refine g_if_eq (pc' := 648) O ⟨dL_law_645, rfl⟩ E (tgt := 650) (by decide) (fun E => ?_) (fun E => ?_)
        · refine g_sub (lv' := [(0, .ref b), (1, .ref (ad 0)), (2, .ref (ad 35)), (3, .ref (ad 54)), (4, .int i)]) [2, 3, 4, 5, 6] rfl ?_
          exact hk650 E
        · refine g_iconst (pc' := 649) O ⟨dL_law_648, rfl⟩ (v := (0 : Int32)) rfl ?_
          cases E
  · refine g_iconst (pc' := 632) O ⟨dL_law_631, rfl⟩ (v := (0 : Int32)) rfl ?_
    cases E
set_option maxRecDepth 100000 in
set_option maxHeartbeats 4000000 in
theorem tc_10 (l : Launch) (D : va_G) (ad : Nat → Nat) (cy : Nat → ClassId) (hfl : l.stackTraces = false) {X : Cx} {R : Room} {b L : Nat} {xs : Nat → Int32} (O : Ok l D cy X cL_law RL 8 R) (hN : NCX X) (hX : SX X b L xs) (hRf : 300 ≤ R.frames ∧ 9000 ≤ R.locals) {k0 n0 : Nat} (hk : k0 + 8 ≤ R.cells ∧ n0 + 48 ≤ R.slots) {i : Int32} {s : LWS} {kont : LWS → Option Unit} {o : Unit} (E : lc_10 L xs i s kont = some o) (hko : ∀ s1, kont s1 = some o → G l D X 8 (LW ad cy) (k0 + 8) (n0 + 48) s1 1943 [(0, .ref b), (1, .ref (ad 0)), (2, .ref (ad 35)), (3, .ref (ad 54)), (4, .int i)] []) : G l D X 8 (LW ad cy) k0 n0 s 653 [(0, .ref b), (1, .ref (ad 0)), (2, .ref (ad 35)), (3, .ref (ad 54)), (4, .int i)] [] := by
  obtain ⟨hk1, hk2⟩ := hk
  unfold lc_10 at E
  refine g_aload_n (pc' := 654) O ⟨dL_law_653, rfl⟩ (q := 1) rfl rfl ?_
  refine g_aload_n (pc' := 655) O ⟨dL_law_654, rfl⟩ (q := 0) rfl rfl ?_
  refine g_iload (pc' := 657) O ⟨dL_law_655, rfl⟩ (q := 4) rfl ?_
  refine g_iconst (pc' := 658) O ⟨dL_law_657, rfl⟩ (v := (1 : Int32)) rfl ?_
  refine g_iadd (pc' := 659) O ⟨dL_law_658, rfl⟩ ?_
  refine g_sld (pc' := 660) O ⟨dL_law_659, rfl⟩ hX E (fun E => ?_)
  refine g_i2l (pc' := 661) O ⟨dL_law_660, rfl⟩ ?_
  refine g_bipush (pc' := 663) O ⟨dL_law_661, rfl⟩ (v := (32 : Int32)) rfl ?_
  refine g_lshl (pc' := 664) O ⟨dL_law_663, rfl⟩ ?_
  refine g_aload_n (pc' := 665) O ⟨dL_law_664, rfl⟩ (q := 0) rfl rfl ?_
  refine g_iload (pc' := 667) O ⟨dL_law_665, rfl⟩ (q := 4) rfl ?_
  refine g_iconst (pc' := 668) O ⟨dL_law_667, rfl⟩ (v := (2 : Int32)) rfl ?_
  refine g_iadd (pc' := 669) O ⟨dL_law_668, rfl⟩ ?_
  refine g_sld (pc' := 670) O ⟨dL_law_669, rfl⟩ hX E (fun E => ?_)
  refine g_i2l (pc' := 671) O ⟨dL_law_670, rfl⟩ ?_
  refine g_ldc2 (pc' := 674) O ⟨dL_law_671, rfl⟩ kw_1473 ?_
  refine g_land (pc' := 675) O ⟨dL_law_674, rfl⟩ ?_
  refine g_lor (pc' := 676) O ⟨dL_law_675, rfl⟩ ?_
  refine g_aload_n (pc' := 677) O ⟨dL_law_676, rfl⟩ (q := 0) rfl rfl ?_
  refine g_iload (pc' := 679) O ⟨dL_law_677, rfl⟩ (q := 4) rfl ?_
  refine g_iconst (pc' := 680) O ⟨dL_law_679, rfl⟩ (v := (3 : Int32)) rfl ?_
  refine g_iadd (pc' := 681) O ⟨dL_law_680, rfl⟩ ?_
  refine g_sld (pc' := 682) O ⟨dL_law_681, rfl⟩ hX E (fun E => ?_)
  refine g_aload_n (pc' := 683) O ⟨dL_law_682, rfl⟩ (q := 3) rfl rfl ?_
  obtain ⟨r_1, c_2, E⟩ := bd_of E
  refine g_H (pc' := 686) O hN ⟨dL_law_683, rfl⟩ (y := yL_type) (As := [.ref (ad 0), .long ((lshl (i2l (xs (i + (1 : Int32)).toNatClampNeg)) (32 : Int32)) ||| ((i2l (xs (i + (2 : Int32)).toNatClampNeg)) &&& (4294967295 : Int64))), .int (xs (i + (3 : Int32)).toNatClampNeg), .ref (ad 54)]) (st := []) (th_type l D ad cy hfl (s := s) c_2) kw_807 kw_59 kw_805 kw_806 hd_L_type ⟨Nat.le_trans (Nat.le_of_ble_eq_true rfl) hRf.1, Nat.le_trans (Nat.le_of_ble_eq_true rfl) hRf.2⟩ ⟨by omega, by omega⟩ rfl (Nat.le_of_ble_eq_true rfl) ?_
  refine g_istore (pc' := 688) O ⟨dL_law_686, rfl⟩ (lv' := [(5, .int r_1.1), (0, .ref b), (1, .ref (ad 0)), (2, .ref (ad 35)), (3, .ref (ad 54)), (4, .int i)]) (by decide) rfl ?_
  refine g_aload_n (pc' := 689) O ⟨dL_law_688, rfl⟩ (q := 3) rfl rfl ?_
  refine g_aload_n (pc' := 690) O ⟨dL_law_689, rfl⟩ (q := 1) rfl rfl ?_
  refine g_iload (pc' := 692) O ⟨dL_law_690, rfl⟩ (q := 5) rfl ?_
  refine g_iconst (pc' := 693) O ⟨dL_law_692, rfl⟩ (v := (1 : Int32)) rfl ?_
  refine g_iadd (pc' := 694) O ⟨dL_law_693, rfl⟩ ?_
  refine g_sld (pc' := 695) O ⟨dL_law_694, rfl⟩ hX E (fun E => ?_)
  refine g_i2l (pc' := 696) O ⟨dL_law_695, rfl⟩ ?_
  refine g_bipush (pc' := 698) O ⟨dL_law_696, rfl⟩ (v := (32 : Int32)) rfl ?_
  refine g_lshl (pc' := 699) O ⟨dL_law_698, rfl⟩ ?_
  refine g_aload_n (pc' := 700) O ⟨dL_law_699, rfl⟩ (q := 1) rfl rfl ?_
  refine g_iload (pc' := 702) O ⟨dL_law_700, rfl⟩ (q := 5) rfl ?_
  refine g_iconst (pc' := 703) O ⟨dL_law_702, rfl⟩ (v := (2 : Int32)) rfl ?_
  refine g_iadd (pc' := 704) O ⟨dL_law_703, rfl⟩ ?_
  refine g_sld (pc' := 705) O ⟨dL_law_704, rfl⟩ hX E (fun E => ?_)
  refine g_i2l (pc' := 706) O ⟨dL_law_705, rfl⟩ ?_
  refine g_ldc2 (pc' := 709) O ⟨dL_law_706, rfl⟩ kw_1473 ?_
  refine g_land (pc' := 710) O ⟨dL_law_709, rfl⟩ ?_
  refine g_lor (pc' := 711) O ⟨dL_law_710, rfl⟩ ?_
  refine g_aload_n (pc' := 712) O ⟨dL_law_711, rfl⟩ (q := 1) rfl rfl ?_
  refine g_iload (pc' := 714) O ⟨dL_law_712, rfl⟩ (q := 5) rfl ?_
  refine g_iconst (pc' := 715) O ⟨dL_law_714, rfl⟩ (v := (3 : Int32)) rfl ?_
  refine g_iadd (pc' := 716) O ⟨dL_law_715, rfl⟩ ?_
  refine g_sld (pc' := 717) O ⟨dL_law_716, rfl⟩ hX E (fun E => ?_)
  obtain ⟨r_3, c_4, E⟩ := bd_of E
  refine g_Ui (pc' := 720) O ⟨dL_law_717, rfl⟩ (y := yX11_type) (As := [.long ((lshl (i2l (xs (i + (1 : Int32)).toNatClampNeg)) (32 : Int32)) ||| ((i2l (xs (i + (2 : Int32)).toNatClampNeg)) &&& (4294967295 : Int64))), .int (xs (i + (3 : Int32)).toNatClampNeg)]) (st := []) (subM ad cy r_1.2) (t_X11_type l D (fun k => ad (35 + k)) cy (h := r_1.2.2.1) c_4) kw_1249 kw_70 kw_1246 kw_1247 kw_1248 rfl (wL_35 ad cy r_1.2) hd_X11_type ⟨Nat.le_trans (Nat.le_of_ble_eq_true rfl) hRf.1, Nat.le_trans (Nat.le_of_ble_eq_true rfl) hRf.2⟩ ⟨by omega, by omega⟩ rfl (Nat.le_of_ble_eq_true rfl) ?_
  refine g_nmh E (fun s_5 E => ?_)
  refine g_istore (pc' := 722) O ⟨dL_law_720, rfl⟩ (lv' := [(6, .int r_3.1), (5, .int r_1.1), (0, .ref b), (1, .ref (ad 0)), (2, .ref (ad 35)), (3, .ref (ad 54)), (4, .int i)]) (by decide) rfl ?_
  refine g_aload_n (pc' := 723) O ⟨dL_law_722, rfl⟩ (q := 4) rfl rfl ?_
  obtain ⟨r_6, c_7, E⟩ := bd_of E
  refine g_Ui (pc' := 726) O ⟨dL_law_723, rfl⟩ (y := yX11_thrown) (As := []) (st := []) (subM ad cy s_5) (t_X11_thrown l D (fun k => ad (35 + k)) cy (h := s_5.2.1) c_7) kw_1160 kw_70 kw_1157 kw_1158 kw_1159 rfl (wL_35 ad cy s_5) hd_X11_thrown ⟨Nat.le_trans (Nat.le_of_ble_eq_true rfl) hRf.1, Nat.le_trans (Nat.le_of_ble_eq_true rfl) hRf.2⟩ ⟨by omega, by omega⟩ rfl (Nat.le_of_ble_eq_true rfl) ?_
  refine g_nmh E (fun s_8 E => ?_)
  refine g_iload (pc' := 728) O ⟨dL_law_726, rfl⟩ (q := 1) rfl ?_
  refine g_icmp_eq (pc' := 731) O ⟨dL_law_728, rfl⟩ E (tgt := 733) (by decide) (fun E => ?_) (fun E => ?_)
  · refine g_iload (pc' := 735) O ⟨dL_law_733, rfl⟩ (q := 1) rfl ?_
    refine jn0_of (P := G l D X 8 (LW ad cy) (k0 + 1) (n0 + 6) s_8 750 [(0, .ref b), (1, .ref (ad 0)), (2, .ref (ad 35)), (3, .ref (ad 54)), (4, .int i)] []) E ?_ ?_
    · intro E
      show G l D X 8 (LW ad cy) (k0 + 1) (n0 + 6) s_8 750 [(0, .ref b), (1, .ref (ad 0)), (2, .ref (ad 35)), (3, .ref (ad 54)), (4, .int i)] []
      refine g_goto (pc' := 753) O ⟨dL_law_750, rfl⟩ (tgt := 1943) (by decide) ?_
      exact g_widen (by omega) (by omega) (hko _ E)
    · intro k750 hk750 E
      refine g_if_ne (pc' := 738) O ⟨dL_law_735, rfl⟩ E (tgt := 750) (by decide) (fun E => ?_) (fun E => ?_)
      · refine g_sub (lv' := [(0, .ref b), (1, .ref (ad 0)), (2, .ref (ad 35)), (3, .ref (ad 54)), (4, .int i)]) [2, 3, 4, 5, 6] rfl ?_
        exact hk750 E
      · refine g_aload_n (pc' := 739) O ⟨dL_law_738, rfl⟩ (q := 5) rfl rfl ?_
        refine g_iconst (pc' := 740) O ⟨dL_law_739, rfl⟩ (v := (0 : Int32)) rfl ?_
        refine g_lald (pc' := 741) O ⟨dL_law_740, rfl⟩ (wL_54 ad cy s_8) E (fun E => ?_)
        refine g_iload (pc' := 743) O ⟨dL_law_741, rfl⟩ (q := 0) rfl ?_
        refine g_i2l (pc' := 744) O ⟨dL_law_743, rfl⟩ ?_
        refine g_lcmp (pc' := 745) O ⟨dL_law_744, rfl⟩ ?_
        refine g_if_eq (pc' := 748) O ⟨dL_law_745, rfl⟩ E (tgt := 750) (by decide) (fun E => ?_) (fun E => ?_)
        · refine g_sub (lv' := [(0, .ref b), (1, .ref (ad 0)), (2, .ref (ad 35)), (3, .ref (ad 54)), (4, .int i)]) [2, 3, 4, 5, 6] rfl ?_
          exact hk750 E
        · refine g_iconst (pc' := 749) O ⟨dL_law_748, rfl⟩ (v := (0 : Int32)) rfl ?_
          cases E
  · refine g_iconst (pc' := 732) O ⟨dL_law_731, rfl⟩ (v := (0 : Int32)) rfl ?_
    cases E
set_option maxRecDepth 100000 in
set_option maxHeartbeats 4000000 in
theorem tc_11 (l : Launch) (D : va_G) (ad : Nat → Nat) (cy : Nat → ClassId) (hfl : l.stackTraces = false) {X : Cx} {R : Room} {b L : Nat} {xs : Nat → Int32} (O : Ok l D cy X cL_law RL 8 R) (hN : NCX X) (hX : SX X b L xs) (hRf : 300 ≤ R.frames ∧ 9000 ≤ R.locals) {k0 n0 : Nat} (hk : k0 + 8 ≤ R.cells ∧ n0 + 48 ≤ R.slots) {i : Int32} {s : LWS} {kont : LWS → Option Unit} {o : Unit} (E : lc_11 L xs i s kont = some o) (hko : ∀ s1, kont s1 = some o → G l D X 8 (LW ad cy) (k0 + 8) (n0 + 48) s1 1943 [(0, .ref b), (1, .ref (ad 0)), (2, .ref (ad 35)), (3, .ref (ad 54)), (4, .int i)] []) : G l D X 8 (LW ad cy) k0 n0 s 753 [(0, .ref b), (1, .ref (ad 0)), (2, .ref (ad 35)), (3, .ref (ad 54)), (4, .int i)] [] := by
  obtain ⟨hk1, hk2⟩ := hk
  unfold lc_11 at E
  refine g_aload_n (pc' := 754) O ⟨dL_law_753, rfl⟩ (q := 1) rfl rfl ?_
  obtain ⟨r_1, c_2, E⟩ := bd_of E
  refine g_Ui (pc' := 757) O ⟨dL_law_754, rfl⟩ (y := yX10_wipe) (As := []) (st := []) (subC ad cy s) (t_X10_wipe l D ad cy (h := s.1) c_2) kw_356 kw_60 kw_353 kw_354 kw_355 rfl (wL_0 ad cy s) hd_X10_wipe ⟨Nat.le_trans (Nat.le_of_ble_eq_true rfl) hRf.1, Nat.le_trans (Nat.le_of_ble_eq_true rfl) hRf.2⟩ ⟨by omega, by omega⟩ rfl (Nat.le_of_ble_eq_true rfl) ?_
  refine g_nmh E (fun s_3 E => ?_)
  refine g_aload_n (pc' := 758) O ⟨dL_law_757, rfl⟩ (q := 2) rfl rfl ?_
  obtain ⟨r_4, c_5, E⟩ := bd_of E
  refine g_Ui (pc' := 761) O ⟨dL_law_758, rfl⟩ (y := yX11_wipe) (As := []) (st := [.int r_1.1]) (subM ad cy s_3) (t_X11_wipe l D (fun k => ad (35 + k)) cy (h := s_3.2.1) c_5) kw_1257 kw_70 kw_1254 kw_1255 kw_1256 rfl (wL_35 ad cy s_3) hd_X11_wipe ⟨Nat.le_trans (Nat.le_of_ble_eq_true rfl) hRf.1, Nat.le_trans (Nat.le_of_ble_eq_true rfl) hRf.2⟩ ⟨by omega, by omega⟩ rfl (Nat.le_of_ble_eq_true rfl) ?_
  refine g_nmh E (fun s_6 E => ?_)
  refine g_icmp_eq (pc' := 764) O ⟨dL_law_761, rfl⟩ E (tgt := 1943) (by decide) (fun E => ?_) (fun E => ?_)
  · exact g_widen (by omega) (by omega) (hko _ E)
  · refine g_iconst (pc' := 765) O ⟨dL_law_764, rfl⟩ (v := (0 : Int32)) rfl ?_
    cases E
set_option maxRecDepth 100000 in
set_option maxHeartbeats 4000000 in
theorem tc_12 (l : Launch) (D : va_G) (ad : Nat → Nat) (cy : Nat → ClassId) (hfl : l.stackTraces = false) {X : Cx} {R : Room} {b L : Nat} {xs : Nat → Int32} (O : Ok l D cy X cL_law RL 8 R) (hN : NCX X) (hX : SX X b L xs) (hRf : 300 ≤ R.frames ∧ 9000 ≤ R.locals) {k0 n0 : Nat} (hk : k0 + 8 ≤ R.cells ∧ n0 + 48 ≤ R.slots) {i : Int32} {s : LWS} {kont : LWS → Option Unit} {o : Unit} (E : lc_12 L xs i s kont = some o) (hko : ∀ s1, kont s1 = some o → G l D X 8 (LW ad cy) (k0 + 8) (n0 + 48) s1 1943 [(0, .ref b), (1, .ref (ad 0)), (2, .ref (ad 35)), (3, .ref (ad 54)), (4, .int i)] []) : G l D X 8 (LW ad cy) k0 n0 s 766 [(0, .ref b), (1, .ref (ad 0)), (2, .ref (ad 35)), (3, .ref (ad 54)), (4, .int i)] [] := by
  obtain ⟨hk1, hk2⟩ := hk
  unfold lc_12 at E
  refine g_aload_n (pc' := 767) O ⟨dL_law_766, rfl⟩ (q := 1) rfl rfl ?_
  obtain ⟨r_1, c_2, E⟩ := bd_of E
  refine g_Ui (pc' := 770) O ⟨dL_law_767, rfl⟩ (y := yX10_fault) (As := []) (st := []) (subC ad cy s) (t_X10_fault l D ad cy (h := s.1) c_2) kw_364 kw_60 kw_361 kw_362 kw_363 rfl (wL_0 ad cy s) hd_X10_fault ⟨Nat.le_trans (Nat.le_of_ble_eq_true rfl) hRf.1, Nat.le_trans (Nat.le_of_ble_eq_true rfl) hRf.2⟩ ⟨by omega, by omega⟩ rfl (Nat.le_of_ble_eq_true rfl) ?_
  refine g_nmh E (fun s_3 E => ?_)
  refine g_aload_n (pc' := 771) O ⟨dL_law_770, rfl⟩ (q := 2) rfl rfl ?_
  obtain ⟨r_4, c_5, E⟩ := bd_of E
  refine g_Ui (pc' := 774) O ⟨dL_law_771, rfl⟩ (y := yX11_fault) (As := []) (st := [.int r_1]) (subM ad cy s_3) (t_X11_fault l D (fun k => ad (35 + k)) cy (h := s_3.2.1) c_5) kw_1261 kw_70 kw_1258 kw_1259 kw_1260 rfl (wL_35 ad cy s_3) hd_X11_fault ⟨Nat.le_trans (Nat.le_of_ble_eq_true rfl) hRf.1, Nat.le_trans (Nat.le_of_ble_eq_true rfl) hRf.2⟩ ⟨by omega, by omega⟩ rfl (Nat.le_of_ble_eq_true rfl) ?_
  refine g_nmh E (fun s_6 E => ?_)
  refine g_icmp_eq (pc' := 777) O ⟨dL_law_774, rfl⟩ E (tgt := 1943) (by decide) (fun E => ?_) (fun E => ?_)
  · exact g_widen (by omega) (by omega) (hko _ E)
  · refine g_iconst (pc' := 778) O ⟨dL_law_777, rfl⟩ (v := (0 : Int32)) rfl ?_
    cases E
set_option maxRecDepth 100000 in
set_option maxHeartbeats 4000000 in
theorem tc_13 (l : Launch) (D : va_G) (ad : Nat → Nat) (cy : Nat → ClassId) (hfl : l.stackTraces = false) {X : Cx} {R : Room} {b L : Nat} {xs : Nat → Int32} (O : Ok l D cy X cL_law RL 8 R) (hN : NCX X) (hX : SX X b L xs) (hRf : 300 ≤ R.frames ∧ 9000 ≤ R.locals) {k0 n0 : Nat} (hk : k0 + 8 ≤ R.cells ∧ n0 + 48 ≤ R.slots) {i : Int32} {s : LWS} {kont : LWS → Option Unit} {o : Unit} (E : lc_13 L xs i s kont = some o) (hko : ∀ s1, kont s1 = some o → G l D X 8 (LW ad cy) (k0 + 8) (n0 + 48) s1 1943 [(0, .ref b), (1, .ref (ad 0)), (2, .ref (ad 35)), (3, .ref (ad 54)), (4, .int i)] []) : G l D X 8 (LW ad cy) k0 n0 s 779 [(0, .ref b), (1, .ref (ad 0)), (2, .ref (ad 35)), (3, .ref (ad 54)), (4, .int i)] [] := by
  obtain ⟨hk1, hk2⟩ := hk
  unfold lc_13 at E
  refine g_aload_n (pc' := 780) O ⟨dL_law_779, rfl⟩ (q := 1) rfl rfl ?_
  refine g_aload_n (pc' := 781) O ⟨dL_law_780, rfl⟩ (q := 3) rfl rfl ?_
  obtain ⟨r_1, c_2, E⟩ := bd_of E
  refine g_H (pc' := 784) O hN ⟨dL_law_781, rfl⟩ (y := yL_build) (As := [.ref (ad 0), .ref (ad 54)]) (st := []) (th_build l D ad cy hfl (s := s) c_2) kw_828 kw_59 kw_826 kw_827 hd_L_build ⟨Nat.le_trans (Nat.le_of_ble_eq_true rfl) hRf.1, Nat.le_trans (Nat.le_of_ble_eq_true rfl) hRf.2⟩ ⟨by omega, by omega⟩ rfl (Nat.le_of_ble_eq_true rfl) ?_
  refine g_istore (pc' := 786) O ⟨dL_law_784, rfl⟩ (lv' := [(5, .int r_1.1), (0, .ref b), (1, .ref (ad 0)), (2, .ref (ad 35)), (3, .ref (ad 54)), (4, .int i)]) (by decide) rfl ?_
  refine g_aload_n (pc' := 787) O ⟨dL_law_786, rfl⟩ (q := 3) rfl rfl ?_
  obtain ⟨r_3, c_4, E⟩ := bd_of E
  refine g_Ui (pc' := 790) O ⟨dL_law_787, rfl⟩ (y := yX11_build) (As := []) (st := []) (subM ad cy r_1.2) (t_X11_build l D (fun k => ad (35 + k)) cy (h := r_1.2.2.1) c_4) kw_1269 kw_70 kw_1266 kw_1267 kw_1268 rfl (wL_35 ad cy r_1.2) hd_X11_build ⟨Nat.le_trans (Nat.le_of_ble_eq_true rfl) hRf.1, Nat.le_trans (Nat.le_of_ble_eq_true rfl) hRf.2⟩ ⟨by omega, by omega⟩ rfl (Nat.le_of_ble_eq_true rfl) ?_
  refine g_nmh E (fun s_5 E => ?_)
  refine g_istore (pc' := 792) O ⟨dL_law_790, rfl⟩ (lv' := [(6, .int r_3.1), (5, .int r_1.1), (0, .ref b), (1, .ref (ad 0)), (2, .ref (ad 35)), (3, .ref (ad 54)), (4, .int i)]) (by decide) rfl ?_
  refine g_aload_n (pc' := 793) O ⟨dL_law_792, rfl⟩ (q := 4) rfl rfl ?_
  obtain ⟨r_6, c_7, E⟩ := bd_of E
  refine g_Ui (pc' := 796) O ⟨dL_law_793, rfl⟩ (y := yX11_thrown) (As := []) (st := []) (subM ad cy s_5) (t_X11_thrown l D (fun k => ad (35 + k)) cy (h := s_5.2.1) c_7) kw_1160 kw_70 kw_1157 kw_1158 kw_1159 rfl (wL_35 ad cy s_5) hd_X11_thrown ⟨Nat.le_trans (Nat.le_of_ble_eq_true rfl) hRf.1, Nat.le_trans (Nat.le_of_ble_eq_true rfl) hRf.2⟩ ⟨by omega, by omega⟩ rfl (Nat.le_of_ble_eq_true rfl) ?_
  refine g_nmh E (fun s_8 E => ?_)
  refine g_iload (pc' := 798) O ⟨dL_law_796, rfl⟩ (q := 1) rfl ?_
  refine g_icmp_eq (pc' := 801) O ⟨dL_law_798, rfl⟩ E (tgt := 803) (by decide) (fun E => ?_) (fun E => ?_)
  · refine g_iload (pc' := 805) O ⟨dL_law_803, rfl⟩ (q := 1) rfl ?_
    refine jn0_of (P := G l D X 8 (LW ad cy) (k0 + 2) (n0 + 12) s_8 820 [(0, .ref b), (1, .ref (ad 0)), (2, .ref (ad 35)), (3, .ref (ad 54)), (4, .int i)] []) E ?_ ?_
    · intro E
      show G l D X 8 (LW ad cy) (k0 + 2) (n0 + 12) s_8 820 [(0, .ref b), (1, .ref (ad 0)), (2, .ref (ad 35)), (3, .ref (ad 54)), (4, .int i)] []
      refine g_goto (pc' := 823) O ⟨dL_law_820, rfl⟩ (tgt := 1943) (by decide) ?_
      exact g_widen (by omega) (by omega) (hko _ E)
    · intro k820 hk820 E
      refine g_if_ne (pc' := 808) O ⟨dL_law_805, rfl⟩ E (tgt := 820) (by decide) (fun E => ?_) (fun E => ?_)
      · refine g_sub (lv' := [(0, .ref b), (1, .ref (ad 0)), (2, .ref (ad 35)), (3, .ref (ad 54)), (4, .int i)]) [2, 3, 4, 5, 6] rfl ?_
        exact hk820 E
      · refine g_aload_n (pc' := 809) O ⟨dL_law_808, rfl⟩ (q := 5) rfl rfl ?_
        refine g_iconst (pc' := 810) O ⟨dL_law_809, rfl⟩ (v := (0 : Int32)) rfl ?_
        refine g_lald (pc' := 811) O ⟨dL_law_810, rfl⟩ (wL_54 ad cy s_8) E (fun E => ?_)
        refine g_iload (pc' := 813) O ⟨dL_law_811, rfl⟩ (q := 0) rfl ?_
        refine g_i2l (pc' := 814) O ⟨dL_law_813, rfl⟩ ?_
        refine g_lcmp (pc' := 815) O ⟨dL_law_814, rfl⟩ ?_
        refine g_if_eq (pc' := 818) O ⟨dL_law_815, rfl⟩ E (tgt := 820) (by decide) (fun E => ?_) (fun E => ?_)
        · refine g_sub (lv' := [(0, .ref b), (1, .ref (ad 0)), (2, .ref (ad 35)), (3, .ref (ad 54)), (4, .int i)]) [2, 3, 4, 5, 6] rfl ?_
          exact hk820 E
        · refine g_iconst (pc' := 819) O ⟨dL_law_818, rfl⟩ (v := (0 : Int32)) rfl ?_
          cases E
  · refine g_iconst (pc' := 802) O ⟨dL_law_801, rfl⟩ (v := (0 : Int32)) rfl ?_
    cases E
set_option maxRecDepth 100000 in
set_option maxHeartbeats 4000000 in
theorem tc_14 (l : Launch) (D : va_G) (ad : Nat → Nat) (cy : Nat → ClassId) (hfl : l.stackTraces = false) {X : Cx} {R : Room} {b L : Nat} {xs : Nat → Int32} (O : Ok l D cy X cL_law RL 8 R) (hN : NCX X) (hX : SX X b L xs) (hRf : 300 ≤ R.frames ∧ 9000 ≤ R.locals) {k0 n0 : Nat} (hk : k0 + 8 ≤ R.cells ∧ n0 + 48 ≤ R.slots) {i : Int32} {s : LWS} {kont : LWS → Option Unit} {o : Unit} (E : lc_14 L xs i s kont = some o) (hko : ∀ s1, kont s1 = some o → G l D X 8 (LW ad cy) (k0 + 8) (n0 + 48) s1 1943 [(0, .ref b), (1, .ref (ad 0)), (2, .ref (ad 35)), (3, .ref (ad 54)), (4, .int i)] []) : G l D X 8 (LW ad cy) k0 n0 s 823 [(0, .ref b), (1, .ref (ad 0)), (2, .ref (ad 35)), (3, .ref (ad 54)), (4, .int i)] [] := by
  obtain ⟨hk1, hk2⟩ := hk
  unfold lc_14 at E
  refine g_aload_n (pc' := 824) O ⟨dL_law_823, rfl⟩ (q := 1) rfl rfl ?_
  refine g_aload_n (pc' := 825) O ⟨dL_law_824, rfl⟩ (q := 0) rfl rfl ?_
  refine g_iload (pc' := 827) O ⟨dL_law_825, rfl⟩ (q := 4) rfl ?_
  refine g_iconst (pc' := 828) O ⟨dL_law_827, rfl⟩ (v := (1 : Int32)) rfl ?_
  refine g_iadd (pc' := 829) O ⟨dL_law_828, rfl⟩ ?_
  refine g_sld (pc' := 830) O ⟨dL_law_829, rfl⟩ hX E (fun E => ?_)
  refine g_aload_n (pc' := 831) O ⟨dL_law_830, rfl⟩ (q := 3) rfl rfl ?_
  obtain ⟨r_1, c_2, E⟩ := bd_of E
  refine g_H (pc' := 834) O hN ⟨dL_law_831, rfl⟩ (y := yL_run) (As := [.ref (ad 0), .int (xs (i + (1 : Int32)).toNatClampNeg), .ref (ad 54)]) (st := []) (th_run l D ad cy hfl (s := s) c_2) kw_841 kw_59 kw_839 kw_840 hd_L_run ⟨Nat.le_trans (Nat.le_of_ble_eq_true rfl) hRf.1, Nat.le_trans (Nat.le_of_ble_eq_true rfl) hRf.2⟩ ⟨by omega, by omega⟩ rfl (Nat.le_of_ble_eq_true rfl) ?_
  refine g_istore (pc' := 836) O ⟨dL_law_834, rfl⟩ (lv' := [(5, .int r_1.1), (0, .ref b), (1, .ref (ad 0)), (2, .ref (ad 35)), (3, .ref (ad 54)), (4, .int i)]) (by decide) rfl ?_
  refine g_aload_n (pc' := 837) O ⟨dL_law_836, rfl⟩ (q := 3) rfl rfl ?_
  refine g_aload_n (pc' := 838) O ⟨dL_law_837, rfl⟩ (q := 1) rfl rfl ?_
  refine g_iload (pc' := 840) O ⟨dL_law_838, rfl⟩ (q := 5) rfl ?_
  refine g_iconst (pc' := 841) O ⟨dL_law_840, rfl⟩ (v := (1 : Int32)) rfl ?_
  refine g_iadd (pc' := 842) O ⟨dL_law_841, rfl⟩ ?_
  refine g_sld (pc' := 843) O ⟨dL_law_842, rfl⟩ hX E (fun E => ?_)
  obtain ⟨r_3, c_4, E⟩ := bd_of E
  refine g_Ui (pc' := 846) O ⟨dL_law_843, rfl⟩ (y := yX11_run) (As := [.int (xs (i + (1 : Int32)).toNatClampNeg)]) (st := []) (subM ad cy r_1.2) (t_X11_run l D (fun k => ad (35 + k)) cy (h := r_1.2.2.1) c_4) kw_1273 kw_70 kw_1270 kw_1271 kw_1272 rfl (wL_35 ad cy r_1.2) hd_X11_run ⟨Nat.le_trans (Nat.le_of_ble_eq_true rfl) hRf.1, Nat.le_trans (Nat.le_of_ble_eq_true rfl) hRf.2⟩ ⟨by omega, by omega⟩ rfl (Nat.le_of_ble_eq_true rfl) ?_
  refine g_nmh E (fun s_5 E => ?_)
  refine g_istore (pc' := 848) O ⟨dL_law_846, rfl⟩ (lv' := [(6, .int r_3.1), (5, .int r_1.1), (0, .ref b), (1, .ref (ad 0)), (2, .ref (ad 35)), (3, .ref (ad 54)), (4, .int i)]) (by decide) rfl ?_
  refine g_aload_n (pc' := 849) O ⟨dL_law_848, rfl⟩ (q := 4) rfl rfl ?_
  obtain ⟨r_6, c_7, E⟩ := bd_of E
  refine g_Ui (pc' := 852) O ⟨dL_law_849, rfl⟩ (y := yX11_thrown) (As := []) (st := []) (subM ad cy s_5) (t_X11_thrown l D (fun k => ad (35 + k)) cy (h := s_5.2.1) c_7) kw_1160 kw_70 kw_1157 kw_1158 kw_1159 rfl (wL_35 ad cy s_5) hd_X11_thrown ⟨Nat.le_trans (Nat.le_of_ble_eq_true rfl) hRf.1, Nat.le_trans (Nat.le_of_ble_eq_true rfl) hRf.2⟩ ⟨by omega, by omega⟩ rfl (Nat.le_of_ble_eq_true rfl) ?_
  refine g_nmh E (fun s_8 E => ?_)
  refine g_iload (pc' := 854) O ⟨dL_law_852, rfl⟩ (q := 1) rfl ?_
  refine g_icmp_eq (pc' := 857) O ⟨dL_law_854, rfl⟩ E (tgt := 859) (by decide) (fun E => ?_) (fun E => ?_)
  · refine g_iload (pc' := 861) O ⟨dL_law_859, rfl⟩ (q := 1) rfl ?_
    refine jn0_of (P := G l D X 8 (LW ad cy) (k0 + 1) (n0 + 6) s_8 876 [(0, .ref b), (1, .ref (ad 0)), (2, .ref (ad 35)), (3, .ref (ad 54)), (4, .int i)] []) E ?_ ?_
    · intro E
      show G l D X 8 (LW ad cy) (k0 + 1) (n0 + 6) s_8 876 [(0, .ref b), (1, .ref (ad 0)), (2, .ref (ad 35)), (3, .ref (ad 54)), (4, .int i)] []
      refine g_goto (pc' := 879) O ⟨dL_law_876, rfl⟩ (tgt := 1943) (by decide) ?_
      exact g_widen (by omega) (by omega) (hko _ E)
    · intro k876 hk876 E
      refine g_if_ne (pc' := 864) O ⟨dL_law_861, rfl⟩ E (tgt := 876) (by decide) (fun E => ?_) (fun E => ?_)
      · refine g_sub (lv' := [(0, .ref b), (1, .ref (ad 0)), (2, .ref (ad 35)), (3, .ref (ad 54)), (4, .int i)]) [2, 3, 4, 5, 6] rfl ?_
        exact hk876 E
      · refine g_aload_n (pc' := 865) O ⟨dL_law_864, rfl⟩ (q := 5) rfl rfl ?_
        refine g_iconst (pc' := 866) O ⟨dL_law_865, rfl⟩ (v := (0 : Int32)) rfl ?_
        refine g_lald (pc' := 867) O ⟨dL_law_866, rfl⟩ (wL_54 ad cy s_8) E (fun E => ?_)
        refine g_iload (pc' := 869) O ⟨dL_law_867, rfl⟩ (q := 0) rfl ?_
        refine g_i2l (pc' := 870) O ⟨dL_law_869, rfl⟩ ?_
        refine g_lcmp (pc' := 871) O ⟨dL_law_870, rfl⟩ ?_
        refine g_if_eq (pc' := 874) O ⟨dL_law_871, rfl⟩ E (tgt := 876) (by decide) (fun E => ?_) (fun E => ?_)
        · refine g_sub (lv' := [(0, .ref b), (1, .ref (ad 0)), (2, .ref (ad 35)), (3, .ref (ad 54)), (4, .int i)]) [2, 3, 4, 5, 6] rfl ?_
          exact hk876 E
        · refine g_iconst (pc' := 875) O ⟨dL_law_874, rfl⟩ (v := (0 : Int32)) rfl ?_
          cases E
  · refine g_iconst (pc' := 858) O ⟨dL_law_857, rfl⟩ (v := (0 : Int32)) rfl ?_
    cases E
set_option maxRecDepth 100000 in
set_option maxHeartbeats 4000000 in
theorem tc_15 (l : Launch) (D : va_G) (ad : Nat → Nat) (cy : Nat → ClassId) (hfl : l.stackTraces = false) {X : Cx} {R : Room} {b L : Nat} {xs : Nat → Int32} (O : Ok l D cy X cL_law RL 8 R) (hN : NCX X) (hX : SX X b L xs) (hRf : 300 ≤ R.frames ∧ 9000 ≤ R.locals) {k0 n0 : Nat} (hk : k0 + 8 ≤ R.cells ∧ n0 + 48 ≤ R.slots) {i : Int32} {s : LWS} {kont : LWS → Option Unit} {o : Unit} (E : lc_15 L xs i s kont = some o) (hko : ∀ s1, kont s1 = some o → G l D X 8 (LW ad cy) (k0 + 8) (n0 + 48) s1 1943 [(0, .ref b), (1, .ref (ad 0)), (2, .ref (ad 35)), (3, .ref (ad 54)), (4, .int i)] []) : G l D X 8 (LW ad cy) k0 n0 s 879 [(0, .ref b), (1, .ref (ad 0)), (2, .ref (ad 35)), (3, .ref (ad 54)), (4, .int i)] [] := by
  obtain ⟨hk1, hk2⟩ := hk
  unfold lc_15 at E
  refine g_aload_n (pc' := 880) O ⟨dL_law_879, rfl⟩ (q := 1) rfl rfl ?_
  obtain ⟨r_1, c_2, E⟩ := bd_of E
  refine g_Ul (pc' := 883) O ⟨dL_law_880, rfl⟩ (y := yX10_outputs) (As := []) (st := []) (subC ad cy s) (t_X10_outputs l D ad cy (h := s.1) c_2) kw_372 kw_60 kw_369 kw_370 kw_371 rfl (wL_0 ad cy s) hd_X10_outputs ⟨Nat.le_trans (Nat.le_of_ble_eq_true rfl) hRf.1, Nat.le_trans (Nat.le_of_ble_eq_true rfl) hRf.2⟩ ⟨by omega, by omega⟩ rfl (Nat.le_of_ble_eq_true rfl) ?_
  refine g_nmh E (fun s_3 E => ?_)
  refine g_aload_n (pc' := 884) O ⟨dL_law_883, rfl⟩ (q := 2) rfl rfl ?_
  obtain ⟨r_4, c_5, E⟩ := bd_of E
  refine g_Ul (pc' := 887) O ⟨dL_law_884, rfl⟩ (y := yX11_outputs) (As := []) (st := [.long r_1.1]) (subM ad cy s_3) (t_X11_outputs l D (fun k => ad (35 + k)) cy (h := s_3.2.1) c_5) kw_1297 kw_70 kw_1294 kw_1295 kw_1296 rfl (wL_35 ad cy s_3) hd_X11_outputs ⟨Nat.le_trans (Nat.le_of_ble_eq_true rfl) hRf.1, Nat.le_trans (Nat.le_of_ble_eq_true rfl) hRf.2⟩ ⟨by omega, by omega⟩ rfl (Nat.le_of_ble_eq_true rfl) ?_
  refine g_nmh E (fun s_6 E => ?_)
  refine g_lcmp (pc' := 888) O ⟨dL_law_887, rfl⟩ ?_
  refine g_if_eq (pc' := 891) O ⟨dL_law_888, rfl⟩ E (tgt := 1943) (by decide) (fun E => ?_) (fun E => ?_)
  · exact g_widen (by omega) (by omega) (hko _ E)
  · refine g_iconst (pc' := 892) O ⟨dL_law_891, rfl⟩ (v := (0 : Int32)) rfl ?_
    cases E
set_option maxRecDepth 100000 in
set_option maxHeartbeats 4000000 in
theorem tc_16 (l : Launch) (D : va_G) (ad : Nat → Nat) (cy : Nat → ClassId) (hfl : l.stackTraces = false) {X : Cx} {R : Room} {b L : Nat} {xs : Nat → Int32} (O : Ok l D cy X cL_law RL 8 R) (hN : NCX X) (hX : SX X b L xs) (hRf : 300 ≤ R.frames ∧ 9000 ≤ R.locals) {k0 n0 : Nat} (hk : k0 + 8 ≤ R.cells ∧ n0 + 48 ≤ R.slots) {i : Int32} {s : LWS} {kont : LWS → Option Unit} {o : Unit} (E : lc_16 L xs i s kont = some o) (hko : ∀ s1, kont s1 = some o → G l D X 8 (LW ad cy) (k0 + 8) (n0 + 48) s1 1943 [(0, .ref b), (1, .ref (ad 0)), (2, .ref (ad 35)), (3, .ref (ad 54)), (4, .int i)] []) : G l D X 8 (LW ad cy) k0 n0 s 893 [(0, .ref b), (1, .ref (ad 0)), (2, .ref (ad 35)), (3, .ref (ad 54)), (4, .int i)] [] := by
  obtain ⟨hk1, hk2⟩ := hk
  unfold lc_16 at E
  refine g_aload_n (pc' := 894) O ⟨dL_law_893, rfl⟩ (q := 1) rfl rfl ?_
  obtain ⟨r_1, c_2, E⟩ := bd_of E
  refine g_Ui (pc' := 897) O ⟨dL_law_894, rfl⟩ (y := yX10_sorts) (As := []) (st := []) (subC ad cy s) (t_X10_sorts l D ad cy (h := s.1) c_2) kw_387 kw_60 kw_384 kw_385 kw_386 rfl (wL_0 ad cy s) hd_X10_sorts ⟨Nat.le_trans (Nat.le_of_ble_eq_true rfl) hRf.1, Nat.le_trans (Nat.le_of_ble_eq_true rfl) hRf.2⟩ ⟨by omega, by omega⟩ rfl (Nat.le_of_ble_eq_true rfl) ?_
  refine g_nmh E (fun s_3 E => ?_)
  refine g_aload_n (pc' := 898) O ⟨dL_law_897, rfl⟩ (q := 2) rfl rfl ?_
  obtain ⟨r_4, c_5, E⟩ := bd_of E
  refine g_Ui (pc' := 901) O ⟨dL_law_898, rfl⟩ (y := yX11_sorts) (As := []) (st := [.int r_1.1]) (subM ad cy s_3) (t_X11_sorts l D (fun k => ad (35 + k)) cy (h := s_3.2.1) c_5) kw_1305 kw_70 kw_1302 kw_1303 kw_1304 rfl (wL_35 ad cy s_3) hd_X11_sorts ⟨Nat.le_trans (Nat.le_of_ble_eq_true rfl) hRf.1, Nat.le_trans (Nat.le_of_ble_eq_true rfl) hRf.2⟩ ⟨by omega, by omega⟩ rfl (Nat.le_of_ble_eq_true rfl) ?_
  refine g_nmh E (fun s_6 E => ?_)
  refine g_icmp_eq (pc' := 904) O ⟨dL_law_901, rfl⟩ E (tgt := 1943) (by decide) (fun E => ?_) (fun E => ?_)
  · exact g_widen (by omega) (by omega) (hko _ E)
  · refine g_iconst (pc' := 905) O ⟨dL_law_904, rfl⟩ (v := (0 : Int32)) rfl ?_
    cases E
set_option maxRecDepth 100000 in
set_option maxHeartbeats 4000000 in
theorem tc_17 (l : Launch) (D : va_G) (ad : Nat → Nat) (cy : Nat → ClassId) (hfl : l.stackTraces = false) {X : Cx} {R : Room} {b L : Nat} {xs : Nat → Int32} (O : Ok l D cy X cL_law RL 8 R) (hN : NCX X) (hX : SX X b L xs) (hRf : 300 ≤ R.frames ∧ 9000 ≤ R.locals) {k0 n0 : Nat} (hk : k0 + 8 ≤ R.cells ∧ n0 + 48 ≤ R.slots) {i : Int32} {s : LWS} {kont : LWS → Option Unit} {o : Unit} (E : lc_17 L xs i s kont = some o) (hko : ∀ s1, kont s1 = some o → G l D X 8 (LW ad cy) (k0 + 8) (n0 + 48) s1 1943 [(0, .ref b), (1, .ref (ad 0)), (2, .ref (ad 35)), (3, .ref (ad 54)), (4, .int i)] []) : G l D X 8 (LW ad cy) k0 n0 s 906 [(0, .ref b), (1, .ref (ad 0)), (2, .ref (ad 35)), (3, .ref (ad 54)), (4, .int i)] [] := by
  obtain ⟨hk1, hk2⟩ := hk
  unfold lc_17 at E
  refine g_aload_n (pc' := 907) O ⟨dL_law_906, rfl⟩ (q := 1) rfl rfl ?_
  obtain ⟨r_1, c_2, E⟩ := bd_of E
  refine g_Ui (pc' := 910) O ⟨dL_law_907, rfl⟩ (y := yX10_sorted) (As := []) (st := []) (subC ad cy s) (t_X10_sorted l D ad cy (h := s.1) c_2) kw_398 kw_60 kw_395 kw_396 kw_397 rfl (wL_0 ad cy s) hd_X10_sorted ⟨Nat.le_trans (Nat.le_of_ble_eq_true rfl) hRf.1, Nat.le_trans (Nat.le_of_ble_eq_true rfl) hRf.2⟩ ⟨by omega, by omega⟩ rfl (Nat.le_of_ble_eq_true rfl) ?_
  refine g_nmh E (fun s_3 E => ?_)
  refine g_aload_n (pc' := 911) O ⟨dL_law_910, rfl⟩ (q := 2) rfl rfl ?_
  obtain ⟨r_4, c_5, E⟩ := bd_of E
  refine g_Ui (pc' := 914) O ⟨dL_law_911, rfl⟩ (y := yX11_sorted) (As := []) (st := [.int r_1.1]) (subM ad cy s_3) (t_X11_sorted l D (fun k => ad (35 + k)) cy (h := s_3.2.1) c_5) kw_1316 kw_70 kw_1313 kw_1314 kw_1315 rfl (wL_35 ad cy s_3) hd_X11_sorted ⟨Nat.le_trans (Nat.le_of_ble_eq_true rfl) hRf.1, Nat.le_trans (Nat.le_of_ble_eq_true rfl) hRf.2⟩ ⟨by omega, by omega⟩ rfl (Nat.le_of_ble_eq_true rfl) ?_
  refine g_nmh E (fun s_6 E => ?_)
  refine g_icmp_eq (pc' := 917) O ⟨dL_law_914, rfl⟩ E (tgt := 1943) (by decide) (fun E => ?_) (fun E => ?_)
  · exact g_widen (by omega) (by omega) (hko _ E)
  · refine g_iconst (pc' := 918) O ⟨dL_law_917, rfl⟩ (v := (0 : Int32)) rfl ?_
    cases E
set_option maxRecDepth 100000 in
set_option maxHeartbeats 4000000 in
theorem tc_18 (l : Launch) (D : va_G) (ad : Nat → Nat) (cy : Nat → ClassId) (hfl : l.stackTraces = false) {X : Cx} {R : Room} {b L : Nat} {xs : Nat → Int32} (O : Ok l D cy X cL_law RL 8 R) (hN : NCX X) (hX : SX X b L xs) (hRf : 300 ≤ R.frames ∧ 9000 ≤ R.locals) {k0 n0 : Nat} (hk : k0 + 8 ≤ R.cells ∧ n0 + 48 ≤ R.slots) {i : Int32} {s : LWS} {kont : LWS → Option Unit} {o : Unit} (E : lc_18 L xs i s kont = some o) (hko : ∀ s1, kont s1 = some o → G l D X 8 (LW ad cy) (k0 + 8) (n0 + 48) s1 1943 [(0, .ref b), (1, .ref (ad 0)), (2, .ref (ad 35)), (3, .ref (ad 54)), (4, .int i)] []) : G l D X 8 (LW ad cy) k0 n0 s 919 [(0, .ref b), (1, .ref (ad 0)), (2, .ref (ad 35)), (3, .ref (ad 54)), (4, .int i)] [] := by
  obtain ⟨hk1, hk2⟩ := hk
  unfold lc_18 at E
  refine g_aload_n (pc' := 920) O ⟨dL_law_919, rfl⟩ (q := 1) rfl rfl ?_
  refine g_aload_n (pc' := 921) O ⟨dL_law_920, rfl⟩ (q := 0) rfl rfl ?_
  refine g_iload (pc' := 923) O ⟨dL_law_921, rfl⟩ (q := 4) rfl ?_
  refine g_iconst (pc' := 924) O ⟨dL_law_923, rfl⟩ (v := (1 : Int32)) rfl ?_
  refine g_iadd (pc' := 925) O ⟨dL_law_924, rfl⟩ ?_
  refine g_sld (pc' := 926) O ⟨dL_law_925, rfl⟩ hX E (fun E => ?_)
  refine g_aload_n (pc' := 927) O ⟨dL_law_926, rfl⟩ (q := 3) rfl rfl ?_
  obtain ⟨r_1, c_2, E⟩ := bd_of E
  refine g_H (pc' := 930) O hN ⟨dL_law_927, rfl⟩ (y := yL_wrong) (As := [.ref (ad 0), .int (xs (i + (1 : Int32)).toNatClampNeg), .ref (ad 54)]) (st := []) (th_wrong l D ad cy hfl (s := s) c_2) kw_865 kw_59 kw_863 kw_864 hd_L_wrong ⟨Nat.le_trans (Nat.le_of_ble_eq_true rfl) hRf.1, Nat.le_trans (Nat.le_of_ble_eq_true rfl) hRf.2⟩ ⟨by omega, by omega⟩ rfl (Nat.le_of_ble_eq_true rfl) ?_
  refine g_istore (pc' := 932) O ⟨dL_law_930, rfl⟩ (lv' := [(5, .int r_1.1), (0, .ref b), (1, .ref (ad 0)), (2, .ref (ad 35)), (3, .ref (ad 54)), (4, .int i)]) (by decide) rfl ?_
  refine g_aload_n (pc' := 933) O ⟨dL_law_932, rfl⟩ (q := 3) rfl rfl ?_
  refine g_aload_n (pc' := 934) O ⟨dL_law_933, rfl⟩ (q := 1) rfl rfl ?_
  refine g_iload (pc' := 936) O ⟨dL_law_934, rfl⟩ (q := 5) rfl ?_
  refine g_iconst (pc' := 937) O ⟨dL_law_936, rfl⟩ (v := (1 : Int32)) rfl ?_
  refine g_iadd (pc' := 938) O ⟨dL_law_937, rfl⟩ ?_
  refine g_sld (pc' := 939) O ⟨dL_law_938, rfl⟩ hX E (fun E => ?_)
  obtain ⟨r_3, c_4, E⟩ := bd_of E
  refine g_Ui (pc' := 942) O ⟨dL_law_939, rfl⟩ (y := yX11_wrong) (As := [.int (xs (i + (1 : Int32)).toNatClampNeg)]) (st := []) (subM ad cy r_1.2) (t_X11_wrong l D (fun k => ad (35 + k)) cy (h := r_1.2.2.1) c_4) kw_1324 kw_70 kw_1321 kw_1322 kw_1323 rfl (wL_35 ad cy r_1.2) hd_X11_wrong ⟨Nat.le_trans (Nat.le_of_ble_eq_true rfl) hRf.1, Nat.le_trans (Nat.le_of_ble_eq_true rfl) hRf.2⟩ ⟨by omega, by omega⟩ rfl (Nat.le_of_ble_eq_true rfl) ?_
  refine g_nmh E (fun s_5 E => ?_)
  refine g_istore (pc' := 944) O ⟨dL_law_942, rfl⟩ (lv' := [(6, .int r_3.1), (5, .int r_1.1), (0, .ref b), (1, .ref (ad 0)), (2, .ref (ad 35)), (3, .ref (ad 54)), (4, .int i)]) (by decide) rfl ?_
  refine g_aload_n (pc' := 945) O ⟨dL_law_944, rfl⟩ (q := 4) rfl rfl ?_
  obtain ⟨r_6, c_7, E⟩ := bd_of E
  refine g_Ui (pc' := 948) O ⟨dL_law_945, rfl⟩ (y := yX11_thrown) (As := []) (st := []) (subM ad cy s_5) (t_X11_thrown l D (fun k => ad (35 + k)) cy (h := s_5.2.1) c_7) kw_1160 kw_70 kw_1157 kw_1158 kw_1159 rfl (wL_35 ad cy s_5) hd_X11_thrown ⟨Nat.le_trans (Nat.le_of_ble_eq_true rfl) hRf.1, Nat.le_trans (Nat.le_of_ble_eq_true rfl) hRf.2⟩ ⟨by omega, by omega⟩ rfl (Nat.le_of_ble_eq_true rfl) ?_
  refine g_nmh E (fun s_8 E => ?_)
  refine g_iload (pc' := 950) O ⟨dL_law_948, rfl⟩ (q := 1) rfl ?_
  refine g_icmp_eq (pc' := 953) O ⟨dL_law_950, rfl⟩ E (tgt := 955) (by decide) (fun E => ?_) (fun E => ?_)
  · refine g_iload (pc' := 957) O ⟨dL_law_955, rfl⟩ (q := 1) rfl ?_
    refine jn0_of (P := G l D X 8 (LW ad cy) (k0 + 1) (n0 + 6) s_8 972 [(0, .ref b), (1, .ref (ad 0)), (2, .ref (ad 35)), (3, .ref (ad 54)), (4, .int i)] []) E ?_ ?_
    · intro E
      show G l D X 8 (LW ad cy) (k0 + 1) (n0 + 6) s_8 972 [(0, .ref b), (1, .ref (ad 0)), (2, .ref (ad 35)), (3, .ref (ad 54)), (4, .int i)] []
      refine g_goto (pc' := 975) O ⟨dL_law_972, rfl⟩ (tgt := 1943) (by decide) ?_
      exact g_widen (by omega) (by omega) (hko _ E)
    · intro k972 hk972 E
      refine g_if_ne (pc' := 960) O ⟨dL_law_957, rfl⟩ E (tgt := 972) (by decide) (fun E => ?_) (fun E => ?_)
      · refine g_sub (lv' := [(0, .ref b), (1, .ref (ad 0)), (2, .ref (ad 35)), (3, .ref (ad 54)), (4, .int i)]) [2, 3, 4, 5, 6] rfl ?_
        exact hk972 E
      · refine g_aload_n (pc' := 961) O ⟨dL_law_960, rfl⟩ (q := 5) rfl rfl ?_
        refine g_iconst (pc' := 962) O ⟨dL_law_961, rfl⟩ (v := (0 : Int32)) rfl ?_
        refine g_lald (pc' := 963) O ⟨dL_law_962, rfl⟩ (wL_54 ad cy s_8) E (fun E => ?_)
        refine g_iload (pc' := 965) O ⟨dL_law_963, rfl⟩ (q := 0) rfl ?_
        refine g_i2l (pc' := 966) O ⟨dL_law_965, rfl⟩ ?_
        refine g_lcmp (pc' := 967) O ⟨dL_law_966, rfl⟩ ?_
        refine g_if_eq (pc' := 970) O ⟨dL_law_967, rfl⟩ E (tgt := 972) (by decide) (fun E => ?_) (fun E => ?_)
        · refine g_sub (lv' := [(0, .ref b), (1, .ref (ad 0)), (2, .ref (ad 35)), (3, .ref (ad 54)), (4, .int i)]) [2, 3, 4, 5, 6] rfl ?_
          exact hk972 E
        · refine g_iconst (pc' := 971) O ⟨dL_law_970, rfl⟩ (v := (0 : Int32)) rfl ?_
          cases E
  · refine g_iconst (pc' := 954) O ⟨dL_law_953, rfl⟩ (v := (0 : Int32)) rfl ?_
    cases E
set_option maxRecDepth 100000 in
set_option maxHeartbeats 4000000 in
theorem tc_19 (l : Launch) (D : va_G) (ad : Nat → Nat) (cy : Nat → ClassId) (hfl : l.stackTraces = false) {X : Cx} {R : Room} {b L : Nat} {xs : Nat → Int32} (O : Ok l D cy X cL_law RL 8 R) (hN : NCX X) (hX : SX X b L xs) (hRf : 300 ≤ R.frames ∧ 9000 ≤ R.locals) {k0 n0 : Nat} (hk : k0 + 8 ≤ R.cells ∧ n0 + 48 ≤ R.slots) {i : Int32} {s : LWS} {kont : LWS → Option Unit} {o : Unit} (E : lc_19 L xs i s kont = some o) (hko : ∀ s1, kont s1 = some o → G l D X 8 (LW ad cy) (k0 + 8) (n0 + 48) s1 1943 [(0, .ref b), (1, .ref (ad 0)), (2, .ref (ad 35)), (3, .ref (ad 54)), (4, .int i)] []) : G l D X 8 (LW ad cy) k0 n0 s 975 [(0, .ref b), (1, .ref (ad 0)), (2, .ref (ad 35)), (3, .ref (ad 54)), (4, .int i)] [] := by
  obtain ⟨hk1, hk2⟩ := hk
  unfold lc_19 at E
  refine g_aload_n (pc' := 976) O ⟨dL_law_975, rfl⟩ (q := 1) rfl rfl ?_
  refine g_aload_n (pc' := 977) O ⟨dL_law_976, rfl⟩ (q := 0) rfl rfl ?_
  refine g_iload (pc' := 979) O ⟨dL_law_977, rfl⟩ (q := 4) rfl ?_
  refine g_iconst (pc' := 980) O ⟨dL_law_979, rfl⟩ (v := (1 : Int32)) rfl ?_
  refine g_iadd (pc' := 981) O ⟨dL_law_980, rfl⟩ ?_
  refine g_sld (pc' := 982) O ⟨dL_law_981, rfl⟩ hX E (fun E => ?_)
  refine g_aload_n (pc' := 983) O ⟨dL_law_982, rfl⟩ (q := 3) rfl rfl ?_
  obtain ⟨r_1, c_2, E⟩ := bd_of E
  refine g_H (pc' := 986) O hN ⟨dL_law_983, rfl⟩ (y := yL_finishes) (As := [.ref (ad 0), .int (xs (i + (1 : Int32)).toNatClampNeg), .ref (ad 54)]) (st := []) (th_finishes l D ad cy hfl (s := s) c_2) kw_875 kw_59 kw_873 kw_874 hd_L_finishes ⟨Nat.le_trans (Nat.le_of_ble_eq_true rfl) hRf.1, Nat.le_trans (Nat.le_of_ble_eq_true rfl) hRf.2⟩ ⟨by omega, by omega⟩ rfl (Nat.le_of_ble_eq_true rfl) ?_
  refine g_istore (pc' := 988) O ⟨dL_law_986, rfl⟩ (lv' := [(5, .int r_1.1), (0, .ref b), (1, .ref (ad 0)), (2, .ref (ad 35)), (3, .ref (ad 54)), (4, .int i)]) (by decide) rfl ?_
  refine g_aload_n (pc' := 989) O ⟨dL_law_988, rfl⟩ (q := 3) rfl rfl ?_
  refine g_aload_n (pc' := 990) O ⟨dL_law_989, rfl⟩ (q := 1) rfl rfl ?_
  refine g_iload (pc' := 992) O ⟨dL_law_990, rfl⟩ (q := 5) rfl ?_
  refine g_iconst (pc' := 993) O ⟨dL_law_992, rfl⟩ (v := (1 : Int32)) rfl ?_
  refine g_iadd (pc' := 994) O ⟨dL_law_993, rfl⟩ ?_
  refine g_sld (pc' := 995) O ⟨dL_law_994, rfl⟩ hX E (fun E => ?_)
  obtain ⟨r_3, c_4, E⟩ := bd_of E
  refine g_Ui (pc' := 998) O ⟨dL_law_995, rfl⟩ (y := yX11_finishes) (As := [.int (xs (i + (1 : Int32)).toNatClampNeg)]) (st := []) (subM ad cy r_1.2) (t_X11_finishes l D (fun k => ad (35 + k)) cy (h := r_1.2.2.1) c_4) kw_1328 kw_70 kw_1325 kw_1326 kw_1327 rfl (wL_35 ad cy r_1.2) hd_X11_finishes ⟨Nat.le_trans (Nat.le_of_ble_eq_true rfl) hRf.1, Nat.le_trans (Nat.le_of_ble_eq_true rfl) hRf.2⟩ ⟨by omega, by omega⟩ rfl (Nat.le_of_ble_eq_true rfl) ?_
  refine g_nmh E (fun s_5 E => ?_)
  refine g_istore (pc' := 1000) O ⟨dL_law_998, rfl⟩ (lv' := [(6, .int r_3.1), (5, .int r_1.1), (0, .ref b), (1, .ref (ad 0)), (2, .ref (ad 35)), (3, .ref (ad 54)), (4, .int i)]) (by decide) rfl ?_
  refine g_aload_n (pc' := 1001) O ⟨dL_law_1000, rfl⟩ (q := 4) rfl rfl ?_
  obtain ⟨r_6, c_7, E⟩ := bd_of E
  refine g_Ui (pc' := 1004) O ⟨dL_law_1001, rfl⟩ (y := yX11_thrown) (As := []) (st := []) (subM ad cy s_5) (t_X11_thrown l D (fun k => ad (35 + k)) cy (h := s_5.2.1) c_7) kw_1160 kw_70 kw_1157 kw_1158 kw_1159 rfl (wL_35 ad cy s_5) hd_X11_thrown ⟨Nat.le_trans (Nat.le_of_ble_eq_true rfl) hRf.1, Nat.le_trans (Nat.le_of_ble_eq_true rfl) hRf.2⟩ ⟨by omega, by omega⟩ rfl (Nat.le_of_ble_eq_true rfl) ?_
  refine g_nmh E (fun s_8 E => ?_)
  refine g_iload (pc' := 1006) O ⟨dL_law_1004, rfl⟩ (q := 1) rfl ?_
  refine g_icmp_eq (pc' := 1009) O ⟨dL_law_1006, rfl⟩ E (tgt := 1011) (by decide) (fun E => ?_) (fun E => ?_)
  · refine g_iload (pc' := 1013) O ⟨dL_law_1011, rfl⟩ (q := 1) rfl ?_
    refine jn0_of (P := G l D X 8 (LW ad cy) (k0 + 1) (n0 + 6) s_8 1028 [(0, .ref b), (1, .ref (ad 0)), (2, .ref (ad 35)), (3, .ref (ad 54)), (4, .int i)] []) E ?_ ?_
    · intro E
      show G l D X 8 (LW ad cy) (k0 + 1) (n0 + 6) s_8 1028 [(0, .ref b), (1, .ref (ad 0)), (2, .ref (ad 35)), (3, .ref (ad 54)), (4, .int i)] []
      refine g_goto (pc' := 1031) O ⟨dL_law_1028, rfl⟩ (tgt := 1943) (by decide) ?_
      exact g_widen (by omega) (by omega) (hko _ E)
    · intro k1028 hk1028 E
      refine g_if_ne (pc' := 1016) O ⟨dL_law_1013, rfl⟩ E (tgt := 1028) (by decide) (fun E => ?_) (fun E => ?_)
      · refine g_sub (lv' := [(0, .ref b), (1, .ref (ad 0)), (2, .ref (ad 35)), (3, .ref (ad 54)), (4, .int i)]) [2, 3, 4, 5, 6] rfl ?_
        exact hk1028 E
      · refine g_aload_n (pc' := 1017) O ⟨dL_law_1016, rfl⟩ (q := 5) rfl rfl ?_
        refine g_iconst (pc' := 1018) O ⟨dL_law_1017, rfl⟩ (v := (0 : Int32)) rfl ?_
        refine g_lald (pc' := 1019) O ⟨dL_law_1018, rfl⟩ (wL_54 ad cy s_8) E (fun E => ?_)
        refine g_iload (pc' := 1021) O ⟨dL_law_1019, rfl⟩ (q := 0) rfl ?_
        refine g_i2l (pc' := 1022) O ⟨dL_law_1021, rfl⟩ ?_
        refine g_lcmp (pc' := 1023) O ⟨dL_law_1022, rfl⟩ ?_
        refine g_if_eq (pc' := 1026) O ⟨dL_law_1023, rfl⟩ E (tgt := 1028) (by decide) (fun E => ?_) (fun E => ?_)
        · refine g_sub (lv' := [(0, .ref b), (1, .ref (ad 0)), (2, .ref (ad 35)), (3, .ref (ad 54)), (4, .int i)]) [2, 3, 4, 5, 6] rfl ?_
          exact hk1028 E
        · refine g_iconst (pc' := 1027) O ⟨dL_law_1026, rfl⟩ (v := (0 : Int32)) rfl ?_
          cases E
  · refine g_iconst (pc' := 1010) O ⟨dL_law_1009, rfl⟩ (v := (0 : Int32)) rfl ?_
    cases E
