/-! ===== the pure run: a road R (0 scalars: last, carts, tracks; 1 hill, 2 smith, 3 bog, 4 toll, 5 depth, 6 parts, 7 cost, 8 frost, 9 and 10 tracks), a state S (0 places, 1 paid, 2 waits, 3 done, 4 depth, 5 waiting, 6 steps) ===== -/
abbrev Rd := Nat → Int → Int
def pt (R : Rd) (c k : Int) : Int := R 6 (7 * c + k)
def hasRutP (R : Rd) (y w : Int) : Prop := R 1 y = -4 ∨ R 1 y = w
def uq (S : Rd) (a : Nat) (i v : Int) : Rd := fun b j => if b = a ∧ j = i then v else S b j
def freeP (R S : Rd) (c y : Int) : Prop := ∀ o : Int, 0 ≤ o → o < R 0 1 → ¬ (o ≠ c ∧ S 0 o = y ∧ S 0 o ≠ pt R o 5 ∧ (R 3 y = 1 ∨ pt R o 1 = pt R c 1))
def nxt (R S : Rd) (c : Int) : Int := if S 0 c < pt R c 5 then S 0 c + 1 else S 0 c - 1
def actsP (R S : Rd) (h c : Int) : Prop := S 0 c ≠ pt R c 5 ∧ pt R c 6 < h ∧ ¬ (pt R c 0 = 2 ∧ h % 2 = 1)
def opensP (R S : Rd) (c : Int) : Prop := pt R c 0 = 2 ∨ (hasRutP R (nxt R S c) (pt R c 1) ∧ S 4 (3 * nxt R S c + pt R c 1) ≤ pt R c 3)
def goesP (R S : Rd) (h c : Int) : Prop := actsP R S h c ∧ opensP R S c ∧ freeP R S c (nxt R S c)
def moreP (R : Rd) (c : Int) : Int := if pt R c 0 = 2 then 0 else if pt R c 0 = 1 then 2 * pt R c 2 else pt R c 2
def deepP (R S : Rd) (c k : Int) : Int := if 99 < S 4 k + moreP R c then 99 else S 4 k + moreP R c
def tollP (R : Rd) (c k : Int) : Int := if pt R c 0 = 4 then 0 else R 4 k
def entP (R S : Rd) (h c : Int) : Rd := uq (uq (uq (uq (uq S 0 c (nxt R S c)) 4 (3 * nxt R S c + pt R c 1) (deepP R S c (3 * nxt R S c + pt R c 1))) 1 c (S 1 c + tollP R c (3 * nxt R S c + pt R c 1))) 3 c (if nxt R S c = pt R c 5 then h else -4)) 6 0 (S 6 0 + 1)
def waitP (S : Rd) (c : Int) : Rd := uq (uq S 2 c (S 2 c + 1)) 5 0 (iOr (S 5 0) (iShl 1 c))
noncomputable def moveP (R : Rd) (h c : Int) (S : Rd) : Rd := @ite _ (goesP R S h c) (Classical.propDecidable _) (entP R S h c) (@ite _ (actsP R S h c) (Classical.propDecidable _) (waitP S c) S)
noncomputable def rowP (R : Rd) (h : Int) (p : Int → Int) : Nat → Rd → Rd
  | 0, S => S
  | k + 1, S => moveP R h (p (k : Int)) (rowP R h p k S)
def thawP (R : Rd) (h : Int) (S : Rd) : Rd := if R 8 h = 1 then (fun b j => if b = 4 ∧ 0 < S 4 j then S 4 j - 1 else S b j) else S
noncomputable def hourP (R : Rd) (p : Int → Int) (h : Int) (S : Rd) : Rd := thawP R h (rowP R h p (R 0 1).toNat (uq S 5 0 0))
def startP (R : Rd) : Rd := fun b j => if b = 0 then pt R j 4 else if b = 3 then -4 else if b = 4 then R 5 j else 0
noncomputable def runP (R : Rd) (p : Int → Int) : Nat → Rd
  | 0 => startP R
  | h + 1 => hourP R p ((h + 1 : Nat) : Int) (runP R p h)
def sumS (S : Rd) : Nat → Int
  | 0 => 0
  | k + 1 => sumS S k + S 3 (k : Int)
def allS (R S : Rd) : Prop := ∀ c : Int, 0 ≤ c → c < R 0 1 → S 3 c ≠ -4
noncomputable def doneP (R : Rd) (p : Int → Int) : Int := @ite _ (allS R (runP R p 60)) (Classical.propDecidable _) (sumS (runP R p 60) (R 0 1).toNat) (-4)
def levP (R : Rd) (a b : Int) : Rd := fun s k => if s = 5 ∧ (3 * a ≤ k ∧ k < 3 * a + 3 ∨ 3 * b ≤ k ∧ k < 3 * b + 3) then 0 else R s k
/-! ===== orders ===== -/
def fI (a : Int → Int) : Nat → Int → Int
  | 0, i => i
  | f + 1, i => if i < 0 then i else if a i ≤ a (i + 1) then i else fI a f (i - 1)
def fJ (a : Int → Int) (i : Int) : Nat → Int → Int
  | 0, j => j
  | f + 1, j => if j ≤ i then j else if a i ≤ a j then j else fJ a i f (j - 1)
def sw (a : Int → Int) (i j : Int) : Int → Int := fun k => if k = i then a j else if k = j then a i else a k
def rvP : Nat → Int → Int → (Int → Int) → (Int → Int)
  | 0, _, _, a => a
  | f + 1, lo, hi, a => if hi ≤ lo then a else rvP f (lo + 1) (hi - 1) (sw a lo hi)
def lastI (n : Int) (a : Int → Int) : Int := fI a 6 (n - 2)
def advF (n : Int) (a : Int → Int) : Int → Int := rvP 6 (lastI n a + 1) (n - 1) (sw a (lastI n a) (fJ a (lastI n a) 6 (n - 1)))
def nrm (a : Int → Int) : List Int := [a 0, a 1, a 2, a 3, a 4]
def ofL (p : List Int) : Int → Int := fun i => p.getD i.toNat 0
def stepL (n : Int) (p : List Int) : List Int := nrm (advF n (ofL p))
def inL (n : Int) (p : List Int) : Bool := (List.range 5).all fun i => decide (n ≤ (i : Int) ∨ 0 ≤ ofL p i ∧ ofL p i < n)
def endsP (n : Int) : Nat → List Int → Bool
  | 0, _ => false
  | f + 1, p => inL n p && (decide (lastI n (ofL p) < 0) || endsP n f (stepL n p))
def idL : List Int := [0, 1, 2, 3, 4]
theorem ends_0 : endsP 0 120 idL = true := by decide +kernel
theorem ends_1 : endsP 1 120 idL = true := by decide +kernel
theorem ends_2 : endsP 2 120 idL = true := by decide +kernel
theorem ends_3 : endsP 3 120 idL = true := by decide +kernel
theorem ends_4 : endsP 4 120 idL = true := by decide +kernel
theorem ends_5 : endsP 5 120 idL = true := by decide +kernel
theorem ends_id {n : Int} (h : 0 ≤ n ∧ n ≤ 5) : endsP n 120 idL = true := by
  have : n = 0 ∨ n = 1 ∨ n = 2 ∨ n = 3 ∨ n = 4 ∨ n = 5 := by omega
  rcases this with h | h | h | h | h | h <;> subst h
  · exact ends_0
  · exact ends_1
  · exact ends_2
  · exact ends_3
  · exact ends_4
  · exact ends_5
noncomputable def bestP (R : Rd) (n : Int) : Nat → List Int → Int × List Int → Int × List Int
  | 0, _, b => b
  | f + 1, p, b => if lastI n (ofL p) < 0 then (if doneP R (ofL p) ≠ -4 ∧ (b.1 = -4 ∨ doneP R (ofL p) < b.1) then (doneP R (ofL p), p) else b) else bestP R n f (stepL n p) (if doneP R (ofL p) ≠ -4 ∧ (b.1 = -4 ∨ doneP R (ofL p) < b.1) then (doneP R (ofL p), p) else b)
noncomputable def m1 (R : Rd) (k : Int × Int × Int) : Nat → Int → Int × Int × Int
  | 0, _ => k
  | f + 1, a => if R 0 0 < a then k else if doneP (levP R a a) (ofL idL) ≠ -4 then (1, a, -4) else m1 R k f (a + 1)
noncomputable def m2b (R : Rd) (a : Int) (k : Int × Int × Int) : Nat → Int → Int × Int × Int
  | 0, _ => k
  | f + 1, b => if R 0 0 < b then k else if doneP (levP R a b) (ofL idL) ≠ -4 then (2, a, b) else m2b R a k f (b + 1)
noncomputable def m2 (R : Rd) : Nat → Int → Int × Int × Int
  | 0, _ => (-4, -4, -4)
  | f + 1, a => if R 0 0 < a then (-4, -4, -4) else m2b R a (m2 R f (a + 1)) 22 (a + 1)
noncomputable def mendP (R : Rd) : Int × Int × Int := if doneP R (ofL idL) ≠ -4 then (0, -4, -4) else m1 R (m2 R 22 0) 22 0
/-! ===== which road the memory holds ===== -/
def mR (μ : Mem) (o : Nat) : Rd
  | 0, i => if i = 0 then μ 61 2 else if i = 1 then μ 62 o else μ 62 (o + 168)
  | 1, i => μ 65 i.toNat
  | 2, i => μ 66 i.toNat
  | 3, i => μ 64 i.toNat
  | 4, i => μ 67 i.toNat
  | 5, i => μ 62 (o + 36 + i.toNat)
  | 6, i => μ 62 (o + 1 + i.toNat)
  | 7, i => μ 62 (o + 160 + i.toNat)
  | 8, i => μ 62 (o + 99 + i.toNat)
  | 9, i => μ 62 (o + 169 + 2 * i.toNat)
  | _, i => μ 62 (o + 170 + 2 * i.toNat)
def Agn (f g : Int → Int) (n : Int) : Prop := ∀ i : Int, 0 ≤ i → i < n → f i = g i
/-- the reference's road (static, and st from o on) is R -/
def MC (μ : Mem) (o : Nat) (R : Rd) : Prop := (μ 61 2 = R 0 0 ∧ μ 62 o = R 0 1 ∧ μ 62 (o + 168) = R 0 2) ∧ (∀ i : Int, 0 ≤ i → i < 21 → μ 65 i.toNat = R 1 i) ∧ (∀ i : Int, 0 ≤ i → i < 21 → μ 66 i.toNat = R 2 i) ∧ (∀ i : Int, 0 ≤ i → i < 21 → μ 64 i.toNat = R 3 i) ∧ (∀ i : Int, 0 ≤ i → i < 63 → μ 67 i.toNat = R 4 i) ∧ (∀ i : Int, 0 ≤ i → i < 63 → μ 62 (o + 36 + i.toNat) = R 5 i) ∧ (∀ i : Int, 0 ≤ i → i < 35 → μ 62 (o + 1 + i.toNat) = R 6 i) ∧ (∀ i : Int, 1 ≤ i → i < 8 → μ 62 (o + 160 + i.toNat) = R 7 i) ∧ (∀ i : Int, 0 ≤ i → i < 61 → μ 62 (o + 99 + i.toNat) = R 8 i) ∧ (∀ i : Int, 0 ≤ i → i < R 0 2 → μ 62 (o + 169 + 2 * i.toNat) = R 9 i ∧ μ 62 (o + 170 + 2 * i.toNat) = R 10 i)
theorem MC_mR (μ : Mem) (o : Nat) : MC μ o (mR μ o) := ⟨⟨rfl, rfl, rfl⟩, fun _ _ _ => rfl, fun _ _ _ => rfl, fun _ _ _ => rfl, fun _ _ _ => rfl, fun _ _ _ => rfl, fun _ _ _ => rfl, fun _ _ _ => rfl, fun _ _ _ => rfl, fun _ _ _ => ⟨rfl, rfl⟩⟩
/-- the class's road at cell r is R -/
def RC (μ : Mem) (r : Nat) (R : Rd) : Prop := (μ r 9 = R 0 0 ∧ μ r 10 = R 0 1 ∧ μ r 11 = R 0 2) ∧ (∀ i : Int, 0 ≤ i → i < 21 → μ (r + 1) i.toNat = R 1 i) ∧ (∀ i : Int, 0 ≤ i → i < 21 → μ (r + 2) i.toNat = R 2 i) ∧ (∃ b : Nat, μ r 7 = (b : Int) ∧ b < 2097152 ∧ ∀ i : Nat, i < 21 → b.testBit i = decide (R 3 (i : Int) = 1)) ∧ (∀ i : Int, 0 ≤ i → i < 63 → μ (r + 3) i.toNat = R 4 i) ∧ (∀ i : Int, 0 ≤ i → i < 63 → μ (r + 4) i.toNat = R 5 i) ∧ (∀ i : Int, 0 ≤ i → i < 7 * R 0 1 → μ (r + 5) i.toNat = R 6 i) ∧ (∀ i : Int, 1 ≤ i → i < 8 → μ (r + 6) i.toNat = R 7 i) ∧ (∃ f : Nat, μ r 8 = (f : Int) ∧ f < 2305843009213693952 ∧ ∀ h : Nat, h < 61 → f.testBit h = decide (R 8 (h : Int) = 1)) ∧ (∀ i : Int, 0 ≤ i → i < R 0 2 → μ (r + 7) i.toNat = 3 * R 9 i + R 10 i)
/-- a road's numbers are in their bounds -/
def Ok (R : Rd) : Prop := (2 ≤ R 0 0 ∧ R 0 0 ≤ 20 ∧ 0 ≤ R 0 1 ∧ R 0 1 ≤ 5 ∧ 0 ≤ R 0 2 ∧ R 0 2 ≤ 8) ∧ (∀ i : Int, 0 ≤ i → i < 21 → R 1 i = -4 ∨ 0 ≤ R 1 i ∧ R 1 i ≤ 2) ∧ (∀ i : Int, 0 ≤ i → i < 21 → R 2 i = -4 ∨ 0 ≤ R 2 i ∧ R 2 i ≤ 9) ∧ (∀ i : Int, 0 ≤ i → i < 21 → R 3 i = 0 ∨ R 3 i = 1) ∧ (∀ i : Int, 0 ≤ i → i < 63 → 0 ≤ R 4 i ∧ R 4 i ≤ 9) ∧ (∀ i : Int, 0 ≤ i → i < 63 → 0 ≤ R 5 i ∧ R 5 i ≤ 99) ∧ (∀ c : Int, 0 ≤ c → c < R 0 1 → (0 ≤ pt R c 0 ∧ pt R c 0 ≤ 4) ∧ (0 ≤ pt R c 1 ∧ pt R c 1 ≤ 2) ∧ (1 ≤ pt R c 2 ∧ pt R c 2 ≤ 9) ∧ (0 ≤ pt R c 3 ∧ pt R c 3 ≤ 30) ∧ (0 ≤ pt R c 4 ∧ pt R c 4 ≤ R 0 0) ∧ (0 ≤ pt R c 5 ∧ pt R c 5 ≤ R 0 0) ∧ pt R c 4 ≠ pt R c 5 ∧ (0 ≤ pt R c 6 ∧ pt R c 6 ≤ 20)) ∧ (∀ i : Int, 1 ≤ i → i < 8 → 0 ≤ R 7 i ∧ R 7 i ≤ 60) ∧ (∀ i : Int, 0 ≤ i → i < 61 → R 8 i = 0 ∨ R 8 i = 1) ∧ (∀ i : Int, 0 ≤ i → i < R 0 2 → (0 ≤ R 9 i ∧ R 9 i ≤ R 0 0) ∧ 0 ≤ R 10 i ∧ R 10 i ≤ 2)
