/-! CASE tests: the reference chooses -/
def FlP (n k : Nat) (f o : Nat → Nat) (l : List Nat) : Prop := ∀ j, j < 3 * k → l.any (fun r => tR n k f o r j) = orB (fun r => tR n k f o r j) (2 ^ n)
def SdP (n k : Nat) (f o : Nat → Nat) (v : Nat) : Prop := 1 ≤ v ∧ v ≤ 5 ∧ (v < 5 → ∃ l : List Nat, l.length = v ∧ (∀ r, r ∈ l → r < 2 ^ n) ∧ FlP n k f o l)
def B3 (n k : Nat) (f o : Nat → Nat) (a b c v : Nat) : Prop := (FlP n k f o [a, b, c] → v ≤ 3) ∧ ∀ d, c < d → d < 2 ^ n → FlP n k f o [a, b, c, d] → v ≤ 4
def B2 (n k : Nat) (f o : Nat → Nat) (a b v : Nat) : Prop := (FlP n k f o [a, b] → v ≤ 2) ∧ ∀ c, b < c → c < 2 ^ n → B3 n k f o a b c v
def B1 (n k : Nat) (f o : Nat → Nat) (a v : Nat) : Prop := (FlP n k f o [a] → v ≤ 1) ∧ ∀ b, a < b → b < 2 ^ n → B2 n k f o a b v
theorem B3.mono {n k a b c v w : Nat} {f o : Nat → Nat} (h : B3 n k f o a b c v) (hw : w ≤ v) : B3 n k f o a b c w := ⟨fun x => Nat.le_trans hw (h.1 x), fun d h1 h2 x => Nat.le_trans hw (h.2 d h1 h2 x)⟩
theorem B2.mono {n k a b v w : Nat} {f o : Nat → Nat} (h : B2 n k f o a b v) (hw : w ≤ v) : B2 n k f o a b w := ⟨fun x => Nat.le_trans hw (h.1 x), fun c h1 h2 => (h.2 c h1 h2).mono hw⟩
theorem B1.mono {n k a v w : Nat} {f o : Nat → Nat} (h : B1 n k f o a v) (hw : w ≤ v) : B1 n k f o a w := ⟨fun x => Nat.le_trans hw (h.1 x), fun b h1 h2 => (h.2 b h1 h2).mono hw⟩
theorem B3.le {n k a b c v : Nat} {f o : Nat → Nat} (h : v ≤ 3) : B3 n k f o a b c v := ⟨fun _ => h, fun _ _ _ _ => by omega⟩
theorem B2.le {n k a b v : Nat} {f o : Nat → Nat} (h : v ≤ 2) : B2 n k f o a b v := ⟨fun _ => h, fun _ _ _ => B3.le (by omega)⟩
theorem SdP.set {n k s : Nat} {f o : Nat → Nat} {l : List Nat} (h1 : 1 ≤ s) (h4 : s ≤ 4) (hl : l.length = s) (hr : ∀ r, r ∈ l → r < 2 ^ n) (hF : FlP n k f o l) : SdP n k f o s := ⟨h1, by omega, fun _ => ⟨l, hl, hr, hF⟩⟩
/-- rows' bits, and all of them -/
def RowsM (n k : Nat) (f o : Nat → Nat) (h : Hp) (A2 A4 : Int64) : Prop := (∀ r, r < 2 ^ n → Rp (3 * k) (tR n k f o r) (h.2 15 r) (h.2 16 r)) ∧ Rp (3 * k) (fun j => orB (fun r => tR n k f o r j) (2 ^ n)) A2 A4
def LpR (n k : Nat) (f o : Nat → Nat) (l : List Nat) (u w : Int64) : Prop := Rp (3 * k) (fun j => l.any (fun r => tR n k f o r j)) u w
theorem LpR.one {n k a : Nat} {f o : Nat → Nat} {h : Hp} {A2 A4 : Int64} (hR : RowsM n k f o h A2 A4) (ha : a < 2 ^ n) : LpR n k f o [a] (h.2 15 a) (h.2 16 a) := (hR.1 a ha).congr (fun j => by simp)
theorem LpR.add {n k a : Nat} {f o : Nat → Nat} {l : List Nat} {h : Hp} {A2 A4 u w : Int64} (hR : RowsM n k f o h A2 A4) (hl : LpR n k f o l u w) (ha : a < 2 ^ n) : LpR n k f o (l ++ [a]) (u ||| h.2 15 a) (w ||| h.2 16 a) := (Rp.or hl (hR.1 a ha)).congr (fun j => by simp [List.any_append])
theorem LpR.fl {n k : Nat} {f o : Nat → Nat} {l : List Nat} {h : Hp} {A2 A4 u w : Int64} (hk : k ≤ 24) (hR : RowsM n k f o h A2 A4) (hl : LpR n k f o l u w) : (lg_cmp u A2 = 0 ∧ lg_cmp w A4 = 0) ↔ FlP n k f o l := by
  rw [lg_eq, lg_eq]
  exact Rp.eq (by omega) hl hR.2
section
variable {n k a b c v : Nat} {f o : Nat → Nat} {h : Hp} {A2 A4 u w : Int64} {P : Int32 → Prop} {K : Int32 → Option Int32}
end
