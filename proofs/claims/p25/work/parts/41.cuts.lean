/-! divisions: the cuts and the rows, in their order -/
def cutN (n a b c : Nat) : List Nat := [0, if 1 < n then a else 24, if 2 < n then b else 24, if 3 < n then c else 24, 24]
def hiN (n k : Nat) : Nat := if k < n then 23 else 1
def loN (n k x : Nat) : Nat := if k < n then x + 1 else 1
def LC (n a b : Nat) : Nat → Nat → List (List Nat)
  | 0, _ => []
  | d + 1, c => cutN n a b c :: LC n a b d (c + 1)
def LB (n a : Nat) : Nat → Nat → List (List Nat)
  | 0, _ => []
  | d + 1, b => LC n a b (hiN n 3 + 1 - loN n 3 b) (loN n 3 b) ++ LB n a d (b + 1)
def LA (n : Nat) : Nat → Nat → List (List Nat)
  | 0, _ => []
  | d + 1, a => LB n a (hiN n 2 + 1 - loN n 2 a) (loN n 2 a) ++ LA n d (a + 1)
/-- all cuts into n spans -/
def MC (n : Nat) : List (List Nat) := LA n (hiN n 1) 1
def cfl (n : Nat) : Nat → Nat → List Nat → List Nat
  | 0, _, c => c
  | d + 1, k, c => cfl n d (k + 1) (c.set k (c.getD (k - 1) 0 + 1))
/-- the next cuts -/
def nc (n : Nat) (c : List Nat) : Nat → Option (List Nat)
  | 0 => none
  | k + 1 => if c.getD (k + 1) 0 < 24 - n + (k + 1) then some (cfl n (n - (k + 2)) (k + 2) (c.set (k + 1) (c.getD (k + 1) 0 + 1))) else nc n c k
def okC (n : Nat) (c : List Nat) : Bool := decide (c.length = 5) && ((List.range n).all (fun k => decide (c.getD k 0 ≤ c.getD (k + 1) 0)) && (decide (c.getD 0 0 = 0) && (decide (c.getD n 0 = 24) && (c.all (fun x => decide (x ≤ 24))))))
def eqc : List Nat → Option (List Nat) → Bool
  | c, some c' => decide (c = c')
  | _, none => false
def ckc (n : Nat) : List (List Nat) → Bool
  | [] => false
  | [c] => okC n c && (nc n c (n - 1)).isNone
  | c :: c' :: t => if okC n c && eqc c' (nc n c (n - 1)) then ckc n (c' :: t) else false
theorem MC_ck1 : ckc 1 (MC 1) = true := by decide +kernel
theorem MC_ck2 : ckc 2 (MC 2) = true := by decide +kernel
theorem MC_ck3 : ckc 3 (MC 3) = true := by decide +kernel
theorem MC_ck4 : ckc 4 (MC 4) = true := by decide +kernel
theorem MC_ck {n : Nat} (h1 : 1 ≤ n) (h4 : n ≤ 4) : ckc n (MC n) = true := by
  rcases (show n = 1 ∨ n = 2 ∨ n = 3 ∨ n = 4 by omega) with rfl | rfl | rfl | rfl
  · exact MC_ck1
  · exact MC_ck2
  · exact MC_ck3
  · exact MC_ck4
theorem MC_len : ∀ n, n < 5 → (MC n).length ≤ 2000 := by decide +kernel
def c0 (n : Nat) : List Nat := cutN n 1 2 3
theorem MC_head : ∀ n, n < 5 → 1 ≤ n → (MC n).head? = some (c0 n) := by decide +kernel
/-- all rows of all the guests -/
def Pn (n : Nat) : List (List Nat) := Lr n n
def pfl (n : Nat) : Nat → Nat → List (List Nat)
  | 0, _ => []
  | d + 1, c => if mk' (dg n c) 0 = 2 ^ n - 1 then dg n c :: pfl n d (c + 1) else pfl n d (c + 1)
theorem Pn_pfl : ∀ n, n < 5 → 1 ≤ n → pfl n (4 ^ n) 0 = Pn n := by decide +kernel
def dwl (p : Nat) (l : List Nat) : List (List Nat) → List (List Nat)
  | [] => []
  | x :: L => if x.take (p + 1) = l.take (p + 1) then dwl p l L else x :: L
def pck (n : Nat) : List (List Nat) → Bool
  | [] => true
  | l :: L => decide (l.length = n) && (l.all (fun x => decide (x < n)) && ((advN n n l n == L.head?) && ((List.range n).all (fun p => advN n n l p == (dwl p l L).head?) && pck n L)))
theorem Pn_pck : ∀ n, n < 5 → 1 ≤ n → pck n (Pn n) = true := by decide +kernel
theorem Pn_len : ∀ n, n < 5 → 1 ≤ n → (Pn n).length ≤ 24 := by decide +kernel
theorem Pn_head : ∀ n, n < 5 → 1 ≤ n → (Pn n).head? = some (fillN n n []) := by decide +kernel
/-! shares -/
def wk (v : Nat → Nat → Nat) (c : List Nat) (g k : Nat) : Nat := sg (v g) (c.getD k 0) (c.getD (k + 1) 0 - c.getD k 0)
def T1 (v : Nat → Nat → Nat) (g : Nat) : Nat := if 1 < To v g then To v g else 1
def gA (l : List Nat) (k : Nat) : Nat := l.getD k 0
/-- the state of the fair search: up, down (0: none yet), who, cuts -/
abbrev FS := Nat × Nat × Nat × List Nat
def mnf (v : Nat → Nat → Nat) (c l : List Nat) : Nat → Nat → Nat × Nat → Nat × Nat
  | 0, _, m => m
  | d + 1, k, m => mnf v c l d (k + 1) (if wk v c (gA l k) k * m.2 < m.1 * T1 v (gA l k) then (wk v c (gA l k) k, T1 v (gA l k)) else m)
def mn (v : Nat → Nat → Nat) (n : Nat) (c l : List Nat) : Nat × Nat := mnf v c l n 0 (wk v c (gA l 0) 0, T1 v (gA l 0))
def poor (v : Nat → Nat → Nat) (c : List Nat) (F : FS) (l : List Nat) (k : Nat) : Bool := decide (F.2.1 ≠ 0) && decide (wk v c (gA l k) k * F.2.1 ≤ F.1 * T1 v (gA l k))
def poorA (v : Nat → Nat → Nat) (c : List Nat) (F : FS) (l : List Nat) : Nat → Nat → Bool
  | 0, _ => false
  | d + 1, k => poor v c F l k || poorA v c F l d (k + 1)
def stF (v : Nat → Nat → Nat) (n : Nat) (c : List Nat) (F : FS) (l : List Nat) : FS := if poorA v c F l n 0 then F else ((mn v n c l).1, (mn v n c l).2, gA l 0, c)
/-- the state of the search without envy -/
abbrev QS := Int32 × Int32 × Int32
def enA (v : Nat → Nat → Nat) (c l : List Nat) (k : Nat) : Nat → Nat → Bool
  | 0, _ => false
  | d + 1, o => decide (wk v c (gA l k) k < wk v c (gA l k) o) || enA v c l k d (o + 1)
def envA (v : Nat → Nat → Nat) (n : Nat) (c l : List Nat) : Nat → Nat → Bool
  | 0, _ => false
  | d + 1, k => enA v c l k n 0 || envA v n c l d (k + 1)
def stQ (v : Nat → Nat → Nat) (n : Nat) (c : List Nat) (Q : QS) (l : List Nat) : QS := if envA v n c l n 0 then Q else (Q.1 + 1, if Q.1 = 0 then (nI (gA l 0), nI (c.getD 1 0)) else (Q.2.1, Q.2.2))
def cF (v : Nat → Nat → Nat) (n : Nat) (F : FS) (c : List Nat) : FS := (Pn n).foldl (stF v n c) F
def cQ (v : Nat → Nat → Nat) (n : Nat) (Q : QS) (c : List Nat) : QS := (Pn n).foldl (stQ v n c) Q
def FF (v : Nat → Nat → Nat) (n : Nat) : FS := (MC n).foldl (cF v n) (0, 0, 0, [])
def QQ (v : Nat → Nat → Nat) (n : Nat) (g k : Int32) : QS := (MC n).foldl (cQ v n) (0, g, k)
