/-! the ways, as a list: pure -/
/-- all rules that end with the step s are kept -/
def fitN (N W : Int → Int) (s : Int) : Nat → Bool
  | 0 => true
  | r + 1 => fitN N W s r && (if hi1 N r = s then keptB N W r else true)
def fitB (N W : Int → Int) (s : Int) : Bool := fitN N W s (N 4).toNat
/-- j lists behind one another, from p on -/
def wlp {α : Type} (f : Int → List α) : Nat → Int → List α
  | 0, _ => []
  | j + 1, p => f p ++ wlp f j (p + 1)
/-- the ways that go on from W, with k steps from s on; B s p: p can do s -/
def wl (N : Int → Int) (B : Int → Int → Bool) : Nat → Int → (Int → Int) → List (Int → Int)
  | 0, _, W => [W]
  | k + 1, s, W => wlp (fun p => if B s p = true ∧ fitB N (ru W s p) s = true then wl N B k (s + 1) (ru W s p) else []) (N 2).toNat 0
def nb : Int → Int := fun _ => -1
def allW (N : Int → Int) (B : Int → Int → Bool) : List (Int → Int) := wl N B (N 3).toNat 0 nb
def abB (N M : Int → Int) (day mis : Int) (s p : Int) : Bool := if 0 ≤ N (64 + 4 * s + 3) then decide (N (64 + 4 * s + 3) = p) else (!(mt mis p.toNat) && mayS N M p s day)
def cstN (N W : Int → Int) : Nat → Int
  | 0 => 0
  | s + 1 => cstN N W s + (if 0 ≤ N (64 + 4 * (s : Int) + 3) then 0 else costS N (W s) s)
def cst (N W : Int → Int) : Int := cstN N W (N 3).toNat
def bst (N : Int → Int) : List (Int → Int) → (Int → Int) × Int → (Int → Int) × Int
  | [], a => a
  | w :: l, a => bst N l (if cst N w < a.2 then (w, cst N w) else a)
def occN (W : Int → Int) (p : Int) : Nat → Int
  | 0 => 0
  | s + 1 => occN W p s + (if W s = p then 1 else 0)
def occ (N W : Int → Int) (p : Int) : Int := occN W p (N 3).toNat
def dIn (N : Int → Int) (p : Int) : List (Int → Int) → Int
  | [] => 0
  | w :: l => dIn N p l + (if 0 < occ N w p then 1 else 0)
def mst (N : Int → Int) (p : Int) : List (Int → Int) → Int
  | [] => 0
  | w :: l => max (occ N w p) (mst N p l)
/-- what sweeps has noted -/
def CaOK (N : Int → Int) (L : List (Int → Int)) (I : mj_I) : Prop := I 150 28 = L.length ∧ (∀ w l, L = w :: l → (∀ s, 0 ≤ s → s < 6 → rd I 165 s = w s) ∧ I 150 31 = cst N w ∧ (∀ s, 0 ≤ s → s < 6 → rd I 166 s = (bst N l (w, cst N w)).1 s) ∧ I 150 32 = (bst N l (w, cst N w)).2) ∧ ∀ p, 0 ≤ p → p < N 2 → rd I 167 p = dIn N p L ∧ rd I 168 p = mst N p L
