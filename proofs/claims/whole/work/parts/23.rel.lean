/-! what the answers are, as functions of a row N; what a row keeps (Inv); a book that holds what a row holds (Cb) -/
abbrev awy (N : Int → Int) (p d : Int) : Prop := N (8 + 8 * p + 4) ≤ d ∧ d ≤ N (8 + 8 * p + 5)
/-- the sign between two -/
def two (w a b : Int) : Int := if w = -1 then (if a ≠ 0 ∨ b ≠ 0 then 1 else 0) else if w = -2 then (if a ≠ 0 ∧ b ≠ 0 then 1 else 0) else if w = -3 then (if a < b then 1 else 0) else if w = -4 then (if a = b then 1 else 0) else if w = -5 then (if b < a then 1 else 0) else if w = -6 then mj_wr (a + b) else if w = -7 then mj_wr (a - b) else if w = -8 then mj_wr (a * b) else if b = 0 then 0 else mj_wr (a.tdiv b)
/-- how many values lie on the stack behind the first k words -/
def dpt (f : Int → Int) : Nat → Int
  | 0 => 0
  | k + 1 => dpt f k + (if 0 ≤ f k then 1 else if f k = -10 then 0 else -1)
/-- the stack behind the first k words -/
def evA (f g : Int → Int) : Nat → Int → Int
  | 0 => fun _ => 0
  | k + 1 => if 0 ≤ f k then ru (evA f g k) (dpt f k) (if f k < 10000 then f k else g (f k - 10000)) else if f k = -10 then ru (evA f g k) (dpt f k - 1) (if evA f g k (dpt f k - 1) = 0 then 1 else 0) else ru (evA f g k) (dpt f k - 2) (two (f k) (evA f g k (dpt f k - 2)) (evA f g k (dpt f k - 1)))
/-- n words that work out to one value -/
def wfc (f : Int → Int) (n : Nat) : Prop := 1 ≤ n ∧ n ≤ 95 ∧ dpt f n = 1 ∧ ∀ k : Nat, k < n → (-10 ≤ f k ∧ f k ≤ 10003) ∧ (f k = -10 → 1 ≤ dpt f k) ∧ (f k < 0 → f k ≠ -10 → 2 ≤ dpt f k)
def lat (N : Int → Int) (key : Int) : Nat → Int
  | 0 => -1
  | n + 1 => if (N (238 + 2 * (n : Int))).tdiv 1000 = key then n else lat N key n
def latT (N : Int → Int) (key : Int) : Int := lat N key (N 5).toNat
def wds (N : Int → Int) (t : Int) : Int → Int := fun j => N (266 + 96 * t + j)
def evT (N : Int → Int) (t : Int) (g : Int → Int) : Int := evA (wds N t) g (N (238 + 2 * t) % 1000).toNat 0
def g4 (a b c e : Int) : Int → Int := fun k => if k = 0 then a else if k = 1 then b else if k = 2 then c else e
def pap1 (N M : Int → Int) (p q : Int) : Bool := mt (mj_or (N (8 + 8 * p + 3)) (M p)) q.toNat
abbrev papS (N M : Int → Int) (p q d : Int) : Prop := pap1 N M p q = true ∨ (0 ≤ N (8 + 8 * p + 6) ∧ d ≤ N (8 + 8 * p + 7) ∧ awy N (N (8 + 8 * p + 6)) d ∧ pap1 N M (N (8 + 8 * p + 6)) q = true)
def mayS (N M : Int → Int) (p s d : Int) : Bool := decide (¬ awy N p d ∧ N (64 + 4 * s + 1) ≤ N (8 + 8 * p + 1) ∧ (N (64 + 4 * s + 0) < 0 ∨ papS N M p (N (64 + 4 * s + 0)) d) ∧ (latT N 0 < 0 ∨ evT N (latT N 0) (g4 s (N (8 + 8 * p + 1)) (N (8 + 8 * p + 0)) d) ≠ 0))
def costV (N : Int → Int) (p s : Int) : Int := if latT N 1 < 0 then N (64 + 4 * s + 2) * (N (8 + 8 * p + 1) + 1) else evT N (latT N 1) (g4 (N (8 + 8 * p + 1)) (N (8 + 8 * p + 0)) (N (64 + 4 * s + 2)) 0)
def costS (N : Int → Int) (p s : Int) : Int := if costV N p s < 0 then 0 else if 9999 < costV N p s then 9999 else costV N p s
def waitS (N : Int → Int) (p : Int) : Int := if latT N 2 < 0 then 10 * N (8 + 8 * p + 1) else evT N (latT N 2) (g4 (N (8 + 8 * p + 1)) (N (8 + 8 * p + 0)) (N 1) 0)
/-- what a row keeps -/
def InvP (N : Int → Int) (p : Int) : Prop := (0 ≤ N (8 + 8 * p + 0) ∧ N (8 + 8 * p + 0) ≤ 4) ∧ (0 ≤ N (8 + 8 * p + 1) ∧ N (8 + 8 * p + 1) ≤ 9) ∧ (0 ≤ N (8 + 8 * p + 2) ∧ N (8 + 8 * p + 2) ≤ 9) ∧ (0 ≤ N (8 + 8 * p + 3) ∧ N (8 + 8 * p + 3) ≤ 255) ∧ (0 ≤ N (8 + 8 * p + 4) ∧ N (8 + 8 * p + 4) ≤ 999) ∧ (-1 ≤ N (8 + 8 * p + 5) ∧ N (8 + 8 * p + 5) ≤ 999) ∧ (-1 ≤ N (8 + 8 * p + 6) ∧ N (8 + 8 * p + 6) < N 2) ∧ (0 ≤ N (8 + 8 * p + 6) → 0 ≤ N (8 + 8 * p + 7) ∧ N (8 + 8 * p + 7) ≤ 999)
def InvS (N : Int → Int) (s : Int) : Prop := (-1 ≤ N (64 + 4 * s + 0) ∧ N (64 + 4 * s + 0) ≤ 7) ∧ (0 ≤ N (64 + 4 * s + 1) ∧ N (64 + 4 * s + 1) ≤ 9) ∧ (1 ≤ N (64 + 4 * s + 2) ∧ N (64 + 4 * s + 2) ≤ 60) ∧ (-1 ≤ N (64 + 4 * s + 3) ∧ N (64 + 4 * s + 3) < N 2)
def InvR (N : Int → Int) (r : Int) : Prop := (0 ≤ N (88 + 4 * r + 0) ∧ N (88 + 4 * r + 0) ≤ 5) ∧ (0 ≤ N (88 + 4 * r + 1) ∧ N (88 + 4 * r + 1) < N 3) ∧ (0 ≤ N (88 + 4 * r + 2) ∧ N (88 + 4 * r + 2) < N 3) ∧ N (88 + 4 * r + 1) ≠ N (88 + 4 * r + 2) ∧ (0 ≤ N (88 + 4 * r + 3) ∧ N (88 + 4 * r + 3) ≤ 9)
def InvO (N : Int → Int) (o : Int) : Prop := (0 ≤ N (136 + 2 * o) ∧ N (136 + 2 * o) < N 2) ∧ (0 ≤ N (136 + 2 * o + 1) ∧ N (136 + 2 * o + 1) ≤ 7)
def InvL (N : Int → Int) (l : Int) : Prop := (0 ≤ N (148 + 3 * l + 0) ∧ N (148 + 3 * l + 0) ≤ 999) ∧ (0 ≤ N (148 + 3 * l + 1) ∧ N (148 + 3 * l + 1) < N 3) ∧ (0 ≤ N (148 + 3 * l + 2) ∧ N (148 + 3 * l + 2) < N 2)
def InvT (N : Int → Int) (t : Int) : Prop := ∃ k n : Nat, k < 3 ∧ N (238 + 2 * t) = 1000 * k + n ∧ wfc (wds N t) n ∧ (0 ≤ N (238 + 2 * t + 1) ∧ N (238 + 2 * t + 1) ≤ 100) ∧ (0 < k → ∀ j : Nat, j < n → wds N t j ≤ 10002)
def InvH (N : Int → Int) : Prop := (0 ≤ N 1 ∧ N 1 ≤ 999) ∧ (0 ≤ N 2 ∧ N 2 ≤ 7) ∧ (0 ≤ N 3 ∧ N 3 ≤ 6) ∧ (0 ≤ N 4 ∧ N 4 ≤ 12) ∧ (0 ≤ N 5 ∧ N 5 ≤ 14) ∧ (0 ≤ N 6 ∧ N 6 ≤ 6) ∧ (0 ≤ N 7 ∧ N 7 ≤ 30)
def Inv (N : Int → Int) : Prop := InvH N ∧ (∀ p, 0 ≤ p → p < N 2 → InvP N p) ∧ (∀ s, 0 ≤ s → s < N 3 → InvS N s) ∧ (∀ r, 0 ≤ r → r < N 4 → InvR N r) ∧ (∀ o, 0 ≤ o → o < N 6 → InvO N o) ∧ (∀ l, 0 ≤ l → l < N 7 → InvL N l) ∧ (∀ t, 0 ≤ t → t < N 5 → InvT N t)
/-- a word of a text: the class's u, the reference's v, in a text of this key -/
def tk (key u v : Int) : Prop := (0 ≤ u ∧ u ≤ 9999 ∧ v = u) ∨ (key = 0 ∧ -4 ≤ u ∧ u ≤ -1 ∧ v = 9999 - u) ∨ (key = 1 ∧ ((u = -2 ∧ v = 10000) ∨ (u = -3 ∧ v = 10001) ∨ (u = -5 ∧ v = 10002))) ∨ (key = 2 ∧ ((u = -2 ∧ v = 10000) ∨ (u = -3 ∧ v = 10001) ∨ (u = -4 ∧ v = 10002)))
  ∨ (u = -33 ∧ v = -10) ∨ (u = -124 ∧ v = -1) ∨ (u = -38 ∧ v = -2) ∨ (u = -60 ∧ v = -3) ∨ (u = -61 ∧ v = -4) ∨ (u = -62 ∧ v = -5) ∨ (u = -43 ∧ v = -6) ∨ (u = -45 ∧ v = -7) ∨ (u = -42 ∧ v = -8) ∨ (u = -47 ∧ v = -9)
def CbH (I : mj_I) (b : Nat) (N : Int → Int) : Prop := I b 14 = N 0 ∧ I b 13 = N 1 ∧ I b 1 = N 2 ∧ I b 3 = N 3 ∧ I b 5 = N 4 ∧ I b 7 = N 5 ∧ I b 11 = N 6 ∧ I (b + 8) 3 = N 7
def CbP (I : mj_I) (b : Nat) (N : Int → Int) (p : Int) : Prop := I (b + 15 + p.toNat) 0 = N (8 + 8 * p + 0) ∧ I (b + 15 + p.toNat) 1 = N (8 + 8 * p + 1) ∧ I (b + 15 + p.toNat) 2 = N (8 + 8 * p + 2) ∧ I (b + 15 + p.toNat) 3 = N (8 + 8 * p + 3) ∧ I (b + 15 + p.toNat) 4 = N (8 + 8 * p + 4) ∧ I (b + 15 + p.toNat) 5 = N (8 + 8 * p + 5) ∧ I (b + 15 + p.toNat) 6 = N (8 + 8 * p + 6) ∧ (0 ≤ N (8 + 8 * p + 6) → I (b + 15 + p.toNat) 7 = N (8 + 8 * p + 7))
def CbS (I : mj_I) (b : Nat) (N : Int → Int) (s : Int) : Prop := I (b + 22 + s.toNat) 0 = N (64 + 4 * s + 0) ∧ I (b + 22 + s.toNat) 1 = N (64 + 4 * s + 1) ∧ I (b + 22 + s.toNat) 2 = N (64 + 4 * s + 2) ∧ I (b + 22 + s.toNat) 3 = N (64 + 4 * s + 3)
def CbR (I : mj_I) (b : Nat) (N : Int → Int) (r : Int) : Prop := I (b + 28 + r.toNat) 0 = N (88 + 4 * r + 0) ∧ I (b + 28 + r.toNat) 1 = N (88 + 4 * r + 1) ∧ I (b + 28 + r.toNat) 2 = N (88 + 4 * r + 2) ∧ I (b + 28 + r.toNat) 3 = N (88 + 4 * r + 3)
def CbO (I : mj_I) (b : Nat) (N : Int → Int) (o : Int) : Prop := rd I (b + 6) o = N (136 + 2 * o) ∧ rd I (b + 7) o = N (136 + 2 * o + 1)
def CbL (I : mj_I) (b : Nat) (N : Int → Int) (l : Int) : Prop := rd I (b + 9) l = N (148 + 3 * l + 0) ∧ rd I (b + 10) l = N (148 + 3 * l + 1) ∧ rd I (b + 11) l = N (148 + 3 * l + 2)
/-- the text in the cell x holds what the row's text t holds -/
def CbX (I : mj_I) (S : mj_S) (x : Nat) (N : Int → Int) (t : Int) : Prop := 181 ≤ x ∧ x < mj_nx S ∧ mj_tg S x = 11 ∧ 181 ≤ mj_rf S x 2 ∧ mj_rf S x 2 < mj_nx S ∧ mj_tg S (mj_rf S x 2) = 20 ∧ ∃ k n : Nat, mj_ln S (mj_rf S x 2) = n ∧ (k < 3 ∧ n ≤ 95) ∧ I x 0 = k ∧ N (238 + 2 * t) = 1000 * k + n ∧ I x 1 = N (238 + 2 * t + 1) ∧ ∀ j : Int, 0 ≤ j → j < n → tk k (rd I (mj_rf S x 2) j) (N (266 + 96 * t + j))
def Cb (I : mj_I) (S : mj_S) (b : Nat) (N : Int → Int) : Prop := CbH I b N ∧ (∀ p, 0 ≤ p → p < N 2 → CbP I b N p) ∧ (∀ s, 0 ≤ s → s < N 3 → CbS I b N s) ∧ (∀ r, 0 ≤ r → r < N 4 → CbR I b N r) ∧ (∀ o, 0 ≤ o → o < N 6 → CbO I b N o) ∧ (∀ l, 0 ≤ l → l < N 7 → CbL I b N l) ∧ (∀ t, 0 ≤ t → t < N 5 → CbX I S (mj_rf S (b + 4) t.toNat) N t) ∧ rd I (b + 5) 0 = latT N 0 ∧ rd I (b + 5) 1 = latT N 1 ∧ rd I (b + 5) 2 = latT N 2
/-- the cells of a book that count -/
def bc (b a : Nat) : Prop := a = b ∨ (b + 5 ≤ a ∧ a ≤ b + 11) ∨ (b + 15 ≤ a ∧ a ≤ b + 39) ∨ 181 ≤ a
theorem Cb.fr {X : Nat → Prop} {I I' : mj_I} {S : mj_S} {b : Nat} {N : Int → Int} (h : Cb I S b N) (hN : InvH N) (hf : fr X I I') (hX : ∀ a, bc b a → ¬ X a) : Cb I' S b N := by
  have e : ∀ a k, bc b a → I' a k = I a k := fun a k q => hf.f (hX a q) k
  have er : ∀ a, bc b a → rd I' a = rd I a := fun a q => hf.r (hX a q)
  unfold InvH at hN
  obtain ⟨h1, h2, h3, h4, h5, h6, h7, h8⟩ := h
  refine ⟨?_, fun p hp hq => ?_, fun p hp hq => ?_, fun p hp hq => ?_, fun p hp hq => ?_, fun p hp hq => ?_, fun p hp hq => ?_, ?_⟩
  · unfold CbH at h1 ⊢
    rw [e b 14 (by unfold bc; omega), e b 13 (by unfold bc; omega), e b 1 (by unfold bc; omega), e b 3 (by unfold bc; omega), e b 5 (by unfold bc; omega), e b 7 (by unfold bc; omega), e b 11 (by unfold bc; omega), e (b + 8) 3 (by unfold bc; omega)]
    exact h1
  · have q := h2 p hp hq
    have z : ∀ k, I' (b + 15 + p.toNat) k = I (b + 15 + p.toNat) k := fun k => e _ k (by unfold bc; omega)
    unfold CbP at q ⊢
    rw [z, z, z, z, z, z, z, z]
    exact q
  · have q := h3 p hp hq
    have z : ∀ k, I' (b + 22 + p.toNat) k = I (b + 22 + p.toNat) k := fun k => e _ k (by unfold bc; omega)
    unfold CbS at q ⊢
    rw [z, z, z, z]
    exact q
  · have q := h4 p hp hq
    have z : ∀ k, I' (b + 28 + p.toNat) k = I (b + 28 + p.toNat) k := fun k => e _ k (by unfold bc; omega)
    unfold CbR at q ⊢
    rw [z, z, z, z]
    exact q
  · have q := h5 p hp hq
    unfold CbO at q ⊢
    rw [er _ (by unfold bc; omega), er _ (by unfold bc; omega)]
    exact q
  · have q := h6 p hp hq
    unfold CbL at q ⊢
    rw [er _ (by unfold bc; omega), er _ (by unfold bc; omega), er _ (by unfold bc; omega)]
    exact q
  · obtain ⟨a1, a2, a3, a4, a5, a6, k, n, a7, a8, a9, a10, a11, a12⟩ := h7 p hp hq
    refine ⟨a1, a2, a3, a4, a5, a6, k, n, a7, a8, ?_, a10, ?_, ?_⟩
    · rw [e _ _ (by unfold bc; omega)]; exact a9
    · rw [e _ _ (by unfold bc; omega)]; exact a11
    · rw [er _ (by unfold bc; omega)]; exact a12
  · rw [er _ (by unfold bc; omega)]
    exact h8
