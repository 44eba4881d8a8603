/-! THE RELATION between the class and the reference: both are at one prime P, E classes, one generator g; numbers, lists, troubles, the tape, the image are alike -/
def prs : List Nat := [3, 5, 7, 11, 13, 17, 19, 23, 29, 31, 37, 41, 43, 47, 53, 59, 61]
/-- g is a generator of P -/
def isG (P g : Nat) : Bool := decide (1 ≤ g) && decide (g < P) && (List.range (P - 2)).all (fun k => !(g ^ (k + 1) % P == 1))
/-- the table of all POWERS by g in one number: at x (a place of base 64) the k of which g to the k is x -/
def tabS (P g : Nat) : Nat → Nat
  | 0 => 0
  | k + 1 => tabS P g k + k * 64 ^ (g ^ k % P)
def tabN (P g : Nat) : Nat := tabS P g (P - 1)
def dT (T x : Nat) : Nat := T / 64 ^ x % 64
/-- the POWER of x by g -/
def dl (P g x : Nat) : Nat := dT (tabN P g) x
def cl (P E g x : Nat) : Nat := dl P g x % E
/-- how many of f, of 1 .. n -/
def cnt1 (f : Nat → Bool) : Nat → Nat
  | 0 => 0
  | n + 1 => cnt1 f n + (if f (n + 1) then 1 else 0)
def gens (P : Nat) : List Nat := (List.range P).filter (fun x => isG P x)
/-- BESIDE -/
def bes (P E g i j : Nat) : Nat := cnt1 (fun x => cl P E g x == i && cl P E g (x + 1) == j) (P - 2)
/-- how many pairs come to z -/
def met (P E g z i j : Nat) : Nat := cnt1 (fun x => !(x == z) && (cl P E g x == i && cl P E g ((z + P - x) % P) == j)) (P - 1)
def opp (P E i : Nat) : Nat := (i + (P - 1) / 2) % E
/-- TIMES -/
def tim (P E g i j h : Nat) : Int32 := nI (met P E g (g ^ h % P) i j) - (if opp P E i = j then nI ((P - 1) / E) else 0)
def Vd (P E g : Nat) : Prop := P ∈ prs ∧ 1 ≤ E ∧ E ≤ 12 ∧ (P - 1) % E = 0 ∧ isG P g = true
def g0 (P : Nat) : Nat := (gens P).getD 0 0
/-- a list's scalar product with f 0, f 1, .. -/
def dotL (f : Nat → Int64) : Nat → Int64
  | 0 => 0
  | n + 1 => dotL f n + f n
/-- the next power of the first period -/
def nxtP (P E : Nat) (v : List Int64) : List Int64 := (List.range E).map (fun h => dotL (fun i => v.getD i 0 * (tim P E (g0 P) i 0 h).toInt64) E)
def perP (P E : Nat) : Nat → List Int64
  | 0 => (List.range E).map (fun i => if i = 0 then 1 else 0)
  | k + 1 => nxtP P E (perP P E k)
/-- the sum of the k-th powers of the periods -/
def psm (P E k : Nat) : Int64 := -(dotL (fun i => (perP P E (k - 1)).getD i 0) E)
/-- the coefficients from E on downwards: at the head that of x to the E - k -/
def newt (P E : Nat) : Nat → List Int64
  | 0 => [1]
  | k + 1 => (-(dotL (fun i => psm P E (i + 1) * (newt P E k).getD i 0) (k + 1)) / (nI (k + 1)).toInt64) :: newt P E k
/-- POLYNOMIAL at x to the k -/
def pol (P E k : Nat) : Int64 := (newt P E E).getD k 0
def RelK (zp : Int32) (ze : Int32) (zf : Int32) (zg : Int32) (zn : Int32) (aG : Nat → Int32) (aW : Nat → Int32) (aR : Nat → Int32) (aN : Nat → Int32) (aF : Nat → Int32) (lC : Nat → Int64) (yp : Int32) (ye : Int32) (yg : Int32) (bPo : Nat → Int32) (bTb : Nat → Int32) : Prop := ∃ P E g : Nat, Vd P E g ∧ (zp = nI P ∧ ze = nI E ∧ zf = nI ((P - 1) / E) ∧ zg = nI g ∧ zn = nI (gens P).length) ∧ (∀ k, k < (gens P).length → aG k = nI ((gens P).getD k 0)) ∧ (∀ x, 1 ≤ x → x < P → aW x = nI (dl P g x)) ∧ (∀ x, x < P → aR x = nI (x ^ E % P)) ∧ (∀ i j, i < E → j < E → aN (12 * i + j) = nI (bes P E g i j)) ∧ (∀ i j h, i < E → j < E → h < E → aF (144 * i + 12 * j + h) = tim P E g i j h) ∧ (∀ k, k ≤ E → lC k = pol P E k) ∧ (yp = nI P ∧ ye = nI E ∧ yg = nI g) ∧ (∀ x, 1 ≤ x → x < P → bPo x = nI (dl P g x)) ∧ (∀ i j h, i < E → j < E → h < E → bTb (144 * i + 12 * j + h) = nI (met P E g (g ^ h % P) i j))
/-- SHELVES alike, as far as E goes -/
def RelS (ze : Int32) (M : Nat → Nat → Int64) (wSh : Nat → Int64) : Prop := ∀ s i : Nat, s < 4 → i < ze.toNatClampNeg → M s i = wSh (12 * s + i)
/-- WHY alike; nothing is open -/
def RelT (ztc : Int32) (aTs aTn : Nat → Int32) (zoc : Int32) (bSo bNu : Nat → Int32) (ytr : Int32) : Prop := zoc = 0 ∧ ∃ t : Nat, t ≤ 6 ∧ ztc = nI t ∧ ytr = nI t ∧ ∀ i : Nat, i < t → aTs i = bSo i ∧ aTn i = bNu i
/-- THE TAPE alike -/
def RelP (aTp : Nat → Int32) (zln : Int32) (bTp : Nat → Int32) (yln : Int32) : Prop := ∃ n : Nat, n ≤ 80 ∧ zln = nI n ∧ yln = nI n ∧ ∀ i : Nat, i < n → ∃ c : Nat, 32 ≤ c ∧ c ≤ 126 ∧ aTp i = nI c ∧ bTp i = nI c
/-- LISTS alike -/
def RelL (aSz : Nat → Int32) (M : Nat → Nat → Int64) (wLi : Nat → Int64) (bSi : Nat → Int32) : Prop := ∀ t : Nat, t < 3 → aSz t = bSi t ∧ (aSz t = -1 ∨ ∃ n : Nat, n ≤ 15 ∧ aSz t = nI n ∧ ∀ i : Nat, i < n → M (4 + t) i = wLi (15 * t + i))
/-- THE IMAGE alike -/
def RelI (zit zip zic zig : Int32) (M : Nat → Nat → Int64) (yhp yhe yhg : Int32) (wHs : Nat → Int64) (yhi : Int32) : Prop := zit = yhi ∧ (zit = 0 ∨ (zit = 1 ∧ ∃ P E g : Nat, Vd P E g ∧ zip = nI P ∧ zic = nI E ∧ zig = nI g ∧ yhp = nI P ∧ yhe = nI E ∧ yhg = nI g ∧ ∀ s i : Nat, s < 4 → i < E → M (7 + s) i = wHs (12 * s + i)))
def Rel (zp : Int32) (ze : Int32) (zf : Int32) (zg : Int32) (zn : Int32) (aG : Nat → Int32) (aW : Nat → Int32) (aR : Nat → Int32) (aN : Nat → Int32) (aF : Nat → Int32) (lC : Nat → Int64) (lS : Nat → Int64) (lP : Nat → Int64) (lX : Nat → Int64) (ztc : Int32) (aTs : Nat → Int32) (aTn : Nat → Int32) (zoc : Int32) (aOs : Nat → Int32) (aOn : Nat → Int32) (aTp : Nat → Int32) (zln : Int32) (zpl : Int32) (zfa : Int32) (aSz : Nat → Int32) (zit : Int32) (zip : Int32) (zic : Int32) (zig : Int32) (M : Nat → Nat → Int64) (yp : Int32) (ye : Int32) (yg : Int32) (bPo : Nat → Int32) (bTb : Nat → Int32) (wSh : Nat → Int64) (wTe : Nat → Int64) (wNx : Nat → Int64) (bOs : Nat → Int32) (bOn : Nat → Int32) (yop : Int32) (bSo : Nat → Int32) (bNu : Nat → Int32) (ytr : Int32) (yiw : Int32) (wMa : Nat → Int64) (wPr : Nat → Int64) (bTp : Nat → Int32) (yln : Int32) (ypl : Int32) (yfa : Int32) (wLi : Nat → Int64) (bSi : Nat → Int32) (yhp : Int32) (yhe : Int32) (yhg : Int32) (wHs : Nat → Int64) (yhi : Int32) : Prop := RelK zp ze zf zg zn aG aW aR aN aF lC yp ye yg bPo bTb ∧ RelS ze M wSh ∧ RelT ztc aTs aTn zoc bSo bNu ytr ∧ RelP aTp zln bTp yln ∧ RelL aSz M wLi bSi ∧ RelI zit zip zic zig M yhp yhe yhg wHs yhi
