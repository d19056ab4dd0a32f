/-! what the class's book b and the reference's row c have in common -/
def RBh (I : mj_I) (b c : Nat) : Prop := I b 14 = I c 0 ∧ I b 13 = I c 1 ∧ I b 1 = I c 2 ∧ I b 3 = I c 3 ∧ I b 5 = I c 4 ∧ I b 7 = I c 5 ∧ I b 11 = I c 6 ∧ I (b + 8) 3 = I c 7
  ∧ (0 ≤ I c 1 ∧ I c 1 ≤ 999) ∧ (0 ≤ I c 2 ∧ I c 2 ≤ 7) ∧ (0 ≤ I c 3 ∧ I c 3 ≤ 6) ∧ (0 ≤ I c 4 ∧ I c 4 ≤ 12) ∧ (0 ≤ I c 5 ∧ I c 5 ≤ 14) ∧ (0 ≤ I c 6 ∧ I c 6 ≤ 6) ∧ (0 ≤ I c 7 ∧ I c 7 ≤ 30)
def RBp1 (I : mj_I) (c a p : Nat) : Prop := I a 0 = I c (8 + 8 * p) ∧ I a 1 = I c (8 + 8 * p + 1) ∧ I a 2 = I c (8 + 8 * p + 2) ∧ I a 3 = I c (8 + 8 * p + 3) ∧ I a 4 = I c (8 + 8 * p + 4) ∧ I a 5 = I c (8 + 8 * p + 5) ∧ I a 6 = I c (8 + 8 * p + 6)
  ∧ (0 ≤ I c (8 + 8 * p + 6) → I a 7 = I c (8 + 8 * p + 7) ∧ 0 ≤ I a 7 ∧ I a 7 ≤ 999)
  ∧ (0 ≤ I a 0 ∧ I a 0 ≤ 4) ∧ (0 ≤ I a 1 ∧ I a 1 ≤ 9) ∧ (0 ≤ I a 2 ∧ I a 2 ≤ 9) ∧ (0 ≤ I a 3 ∧ I a 3 ≤ 255) ∧ (0 ≤ I a 4 ∧ I a 4 ≤ 999) ∧ (-1 ≤ I a 5 ∧ I a 5 ≤ 999) ∧ (-1 ≤ I a 6 ∧ I a 6 < I c 2)
def RBp (I : mj_I) (b c : Nat) : Prop := ∀ p : Nat, (p : Int) < I c 2 → RBp1 I c (b + 15 + p) p
def RBs1 (I : mj_I) (c a s : Nat) : Prop := I a 0 = I c (64 + 4 * s) ∧ I a 1 = I c (64 + 4 * s + 1) ∧ I a 2 = I c (64 + 4 * s + 2) ∧ I a 3 = I c (64 + 4 * s + 3)
  ∧ (-1 ≤ I a 0 ∧ I a 0 ≤ 7) ∧ (0 ≤ I a 1 ∧ I a 1 ≤ 9) ∧ (1 ≤ I a 2 ∧ I a 2 ≤ 60) ∧ (-1 ≤ I a 3 ∧ I a 3 < I c 2)
def RBs (I : mj_I) (b c : Nat) : Prop := ∀ s : Nat, (s : Int) < I c 3 → RBs1 I c (b + 22 + s) s
def RBr1 (I : mj_I) (c a r : Nat) : Prop := I a 0 = I c (88 + 4 * r) ∧ I a 1 = I c (88 + 4 * r + 1) ∧ I a 2 = I c (88 + 4 * r + 2) ∧ I a 3 = I c (88 + 4 * r + 3)
  ∧ (0 ≤ I a 0 ∧ I a 0 ≤ 5) ∧ (0 ≤ I a 1 ∧ I a 1 < I c 3) ∧ (0 ≤ I a 2 ∧ I a 2 < I c 3) ∧ I a 1 ≠ I a 2 ∧ (0 ≤ I a 3 ∧ I a 3 ≤ 9)
def RBr (I : mj_I) (b c : Nat) : Prop := ∀ r : Nat, (r : Int) < I c 4 → RBr1 I c (b + 28 + r) r
def RBo (I : mj_I) (b c : Nat) : Prop := ∀ o : Nat, (o : Int) < I c 6 → I (b + 6) o = I c (136 + 2 * o) ∧ I (b + 7) o = I c (136 + 2 * o + 1) ∧ (0 ≤ I (b + 6) o ∧ I (b + 6) o < I c 2) ∧ (0 ≤ I (b + 7) o ∧ I (b + 7) o ≤ 7)
def RBl (I : mj_I) (b c : Nat) : Prop := ∀ l : Nat, (l : Int) < I c 7 → I (b + 9) l = I c (148 + 3 * l) ∧ I (b + 10) l = I c (148 + 3 * l + 1) ∧ I (b + 11) l = I c (148 + 3 * l + 2) ∧ (0 ≤ I (b + 9) l ∧ I (b + 9) l ≤ 999) ∧ (0 ≤ I (b + 10) l ∧ I (b + 10) l < I c 3) ∧ (0 ≤ I (b + 11) l ∧ I (b + 11) l < I c 2)
/-- a word of a text: the class's u, the reference's v, in a text of this key -/
def tk (key u v : Int) : Prop := (0 ≤ u ∧ u ≤ 9999 ∧ v = u) ∨ (key = 0 ∧ -4 ≤ u ∧ u ≤ -1 ∧ v = 9999 - u) ∨ (key = 1 ∧ ((u = -2 ∧ v = 10000) ∨ (u = -3 ∧ v = 10001) ∨ (u = -5 ∧ v = 10002))) ∨ (key = 2 ∧ ((u = -2 ∧ v = 10000) ∨ (u = -3 ∧ v = 10001) ∨ (u = -4 ∧ v = 10002)))
  ∨ (u = -33 ∧ v = -10) ∨ (u = -124 ∧ v = -1) ∨ (u = -38 ∧ v = -2) ∨ (u = -60 ∧ v = -3) ∨ (u = -61 ∧ v = -4) ∨ (u = -62 ∧ v = -5) ∨ (u = -43 ∧ v = -6) ∨ (u = -45 ∧ v = -7) ∨ (u = -42 ∧ v = -8) ∨ (u = -47 ∧ v = -9)
/-- how many values lie on the stack behind the first k words -/
def dpt (f : Nat → Int) : Nat → Int
  | 0 => 0
  | k + 1 => dpt f k + (if 0 ≤ f k then 1 else if f k = -10 then 0 else -1)
/-- n words that work out to one value -/
def wfc (f : Nat → Int) (n : Nat) : Prop := 1 ≤ n ∧ n ≤ 95 ∧ dpt f n = 1 ∧ ∀ k, k < n → (f k = -10 → 1 ≤ dpt f k) ∧ (f k < 0 → f k ≠ -10 → 2 ≤ dpt f k)
def RBt1 (I : mj_I) (S : mj_S) (b c t : Nat) : Prop := ∃ x y n k : Nat, mj_rf S (b + 4) t = x ∧ 181 ≤ x ∧ x < mj_nx S ∧ mj_tg S x = 11 ∧ mj_rf S x 2 = y ∧ 181 ≤ y ∧ y < mj_nx S ∧ mj_tg S y = 20 ∧ mj_ln S y = n ∧ k < 3
  ∧ I x 0 = k ∧ I c (238 + 2 * t) = 1000 * k + n ∧ I x 1 = I c (238 + 2 * t + 1) ∧ wfc (fun j => I c (266 + 96 * t + j)) n ∧ ∀ j, j < n → tk k (I y j) (I c (266 + 96 * t + j))
def RBt (I : mj_I) (S : mj_S) (b c : Nat) : Prop := (∀ t : Nat, (t : Int) < I c 5 → RBt1 I S b c t)
  ∧ ∀ k : Nat, k < 3 → -1 ≤ I (b + 5) k ∧ I (b + 5) k < I c 5 ∧ (∀ t : Nat, (t : Int) = I (b + 5) k → I c (238 + 2 * t) / 1000 = k) ∧ ∀ t : Nat, I (b + 5) k < t → (t : Int) < I c 5 → ¬ I c (238 + 2 * t) / 1000 = k
def RB (I : mj_I) (S : mj_S) (b c : Nat) : Prop := RBh I b c ∧ RBp I b c ∧ RBs I b c ∧ RBr I b c ∧ RBo I b c ∧ RBl I b c ∧ RBt I S b c
/-- the cells of a book that count -/
def bc (b a : Nat) : Prop := a = b ∨ (b + 5 ≤ a ∧ a ≤ b + 11) ∨ (b + 15 ≤ a ∧ a ≤ b + 39) ∨ 181 ≤ a
theorem RBh.fr {I I' : mj_I} {b c : Nat} (h : RBh I b c) (h1 : ∀ a k, bc b a → I' a k = I a k) (h2 : ∀ k, I' c k = I c k) : RBh I' b c := by
  unfold RBh at h ⊢
  rw [h1 b 14 (by unfold bc; omega), h1 b 13 (by unfold bc; omega), h1 b 1 (by unfold bc; omega), h1 b 3 (by unfold bc; omega), h1 b 5 (by unfold bc; omega), h1 b 7 (by unfold bc; omega), h1 b 11 (by unfold bc; omega), h1 (b + 8) 3 (by unfold bc; omega)]
  simp only [h2]
  exact h
theorem RBp1.fr {I I' : mj_I} {c a p : Nat} (h : RBp1 I c a p) (h1 : ∀ k, I' a k = I a k) (h2 : ∀ k, k < 8 → I' c (8 + 8 * p + k) = I c (8 + 8 * p + k)) (h3 : I c 2 ≤ I' c 2) : RBp1 I' c a p := by
  have e0 := h2 0 (by omega); have e1 := h2 1 (by omega); have e2 := h2 2 (by omega); have e3 := h2 3 (by omega); have e4 := h2 4 (by omega); have e5 := h2 5 (by omega); have e6 := h2 6 (by omega); have e7 := h2 7 (by omega)
  rw [Nat.add_zero] at e0
  unfold RBp1 at h ⊢
  simp only [h1, e0, e1, e2, e3, e4, e5, e6, e7]
  omega
theorem RBs1.fr {I I' : mj_I} {c a p : Nat} (h : RBs1 I c a p) (h1 : ∀ k, I' a k = I a k) (h2 : ∀ k, k < 4 → I' c (64 + 4 * p + k) = I c (64 + 4 * p + k)) (h3 : I c 2 ≤ I' c 2) : RBs1 I' c a p := by
  have e0 := h2 0 (by omega); have e1 := h2 1 (by omega); have e2 := h2 2 (by omega); have e3 := h2 3 (by omega)
  rw [Nat.add_zero] at e0
  unfold RBs1 at h ⊢
  simp only [h1, e0, e1, e2, e3]
  omega
theorem RBr1.fr {I I' : mj_I} {c a p : Nat} (h : RBr1 I c a p) (h1 : ∀ k, I' a k = I a k) (h2 : ∀ k, k < 4 → I' c (88 + 4 * p + k) = I c (88 + 4 * p + k)) (h3 : I c 3 ≤ I' c 3) : RBr1 I' c a p := by
  have e0 := h2 0 (by omega); have e1 := h2 1 (by omega); have e2 := h2 2 (by omega); have e3 := h2 3 (by omega)
  rw [Nat.add_zero] at e0
  unfold RBr1 at h ⊢
  simp only [h1, e0, e1, e2, e3]
  omega
theorem RBo.fr {I I' : mj_I} {b c : Nat} (h : RBo I b c) (h1 : ∀ k, I' (b + 6) k = I (b + 6) k) (h1' : ∀ k, I' (b + 7) k = I (b + 7) k) (h2 : ∀ k, 136 ≤ k → k < 148 → I' c k = I c k) (h3 : I c 2 ≤ I' c 2) (h4 : I' c 6 ≤ I c 6) (h5 : I c 6 ≤ 6) : RBo I' b c := by
  intro o ho
  have q := h o (by omega)
  rw [h1, h1', h2 (136 + 2 * o) (by omega) (by omega), h2 (136 + 2 * o + 1) (by omega) (by omega)]
  omega
theorem RBl.fr {I I' : mj_I} {b c : Nat} (h : RBl I b c) (h1 : ∀ a k, b + 9 ≤ a → a ≤ b + 11 → I' a k = I a k) (h2 : ∀ k, 148 ≤ k → k < 238 → I' c k = I c k) (h3 : I c 2 ≤ I' c 2) (h4 : I' c 7 = I c 7) (h5 : I c 7 ≤ 30) (h6 : I c 3 ≤ I' c 3) : RBl I' b c := by
  intro l hl
  have q := h l (by omega)
  rw [h1 (b + 9) l (by omega) (by omega), h1 (b + 10) l (by omega) (by omega), h1 (b + 11) l (by omega) (by omega), h2 (148 + 3 * l) (by omega) (by omega), h2 (148 + 3 * l + 1) (by omega) (by omega), h2 (148 + 3 * l + 2) (by omega) (by omega)]
  omega
theorem RBt.fr {I I' : mj_I} {S : mj_S} {b c : Nat} (h : RBt I S b c) (h1 : ∀ a k, 181 ≤ a → I' a k = I a k) (h1' : ∀ k, I' (b + 5) k = I (b + 5) k) (h2 : ∀ k, 238 ≤ k → I' c k = I c k) (h5 : I' c 5 = I c 5) : RBt I' S b c := by
  refine ⟨fun t ht => ?_, fun k hk => ?_⟩
  · obtain ⟨x, y, n, k, a1, a2, a3, a4, a5, a6, a7, a8, a9, a10, a11, a12, a13, a14, a15⟩ := h.1 t (by omega)
    refine ⟨x, y, n, k, a1, a2, a3, a4, a5, a6, a7, a8, a9, a10, by rw [h1 x 0 a2]; exact a11, by rw [h2 _ (by omega)]; exact a12, by rw [h1 x 1 a2, h2 _ (by omega)]; exact a13, ?_, fun j hj => by rw [h1 y j a6, h2 _ (by omega)]; exact a15 j hj⟩
    rw [show (fun j => I' c (266 + 96 * t + j)) = (fun j => I c (266 + 96 * t + j)) from funext (fun j => h2 _ (by omega))]
    exact a14
  · obtain ⟨a1, a2, a3, a4⟩ := h.2 k hk
    rw [h1', h5]
    exact ⟨a1, a2, fun t ht => by rw [h2 _ (by omega)]; exact a3 t ht, fun t ht ht2 => by rw [h2 _ (by omega)]; exact a4 t ht ht2⟩
/-- a book and its row where no cell of theirs has changed -/
theorem RB.fr {I I' : mj_I} {S : mj_S} {b c : Nat} (h : RB I S b c) (h1 : ∀ a k, bc b a → I' a k = I a k) (h2 : ∀ k, I' c k = I c k) : RB I' S b c := by
  obtain ⟨hh, hp, hs, hr, ho, hl, ht⟩ := h
  have q := hh
  unfold RBh at q
  have e2 := h2 2; have e3 := h2 3; have e4 := h2 4; have e5 := h2 5; have e6 := h2 6; have e7 := h2 7
  refine ⟨hh.fr h1 h2, fun p hp' => ?_, fun p hp' => ?_, fun p hp' => ?_, ho.fr (fun k => h1 _ k (by unfold bc; omega)) (fun k => h1 _ k (by unfold bc; omega)) (fun k _ _ => h2 k) (by omega) (by omega) (by omega), hl.fr (fun a k _ _ => h1 a k (by unfold bc; omega)) (fun k _ _ => h2 k) (by omega) (by omega) (by omega) (by omega), ht.fr (fun a k _ => h1 a k (by unfold bc; omega)) (fun k => h1 _ k (by unfold bc; omega)) (fun k _ => h2 k) (by omega)⟩
  · exact (hp p (by omega)).fr (fun k => h1 _ k (by unfold bc; omega)) (fun k _ => h2 _) (by omega)
  · exact (hs p (by omega)).fr (fun k => h1 _ k (by unfold bc; omega)) (fun k _ => h2 _) (by omega)
  · exact (hr p (by omega)).fr (fun k => h1 _ k (by unfold bc; omega)) (fun k _ => h2 _) (by omega)
