/-! the smallest set, the first of them -/
def MB (P : Nat → Prop) (lo hi : Nat) (b : Int) : Prop := (b = -1 ∧ ∀ k, lo ≤ k → k < hi → ¬ P k) ∨ ∃ k : Nat, b = k ∧ lo ≤ k ∧ k < hi ∧ P k ∧ ∀ j : Nat, lo ≤ j → j < hi → P j → pc7 k < pc7 j ∨ (pc7 k = pc7 j ∧ k ≤ j)
theorem MB_u {P : Nat → Prop} {lo hi : Nat} {b c : Int} (h : MB P lo hi b) (k : MB P lo hi c) : b = c := by
  rcases h with ⟨h1, h2⟩ | ⟨i, h1, h2, h3, h4, h5⟩
  · rcases k with ⟨k1, k2⟩ | ⟨j, k1, k2, k3, k4, k5⟩
    · omega
    · exact absurd k4 (h2 j k2 k3)
  · rcases k with ⟨k1, k2⟩ | ⟨j, k1, k2, k3, k4, k5⟩
    · exact absurd h4 (k2 i h2 h3)
    · have a := h5 j k2 k3 k4
      have c := k5 i h2 h3 h4
      omega
theorem MB_t {P : Nat → Prop} {lo hi : Nat} {b : Int} (h : MB P lo hi b) (hl : lo ≤ hi) (hP : P hi) (hb : b < 0 ∨ pc7 hi < pc7 b) : MB P lo (hi + 1) hi := by
  refine Or.inr ⟨hi, rfl, hl, by omega, hP, fun j j0 j1 hj => ?_⟩
  by_cases e : j = hi
  · subst e
    exact Or.inr ⟨rfl, Nat.le_refl _⟩
  · rcases h with ⟨h1, h2⟩ | ⟨i, h1, h2, h3, h4, h5⟩
    · exact absurd hj (h2 j j0 (by omega))
    · have a := h5 j j0 (by omega) hj
      rw [h1] at hb
      omega
theorem MB_n {P : Nat → Prop} {lo hi : Nat} {b : Int} (h : MB P lo hi b) (hb : ¬ P hi ∨ (0 ≤ b ∧ pc7 b ≤ pc7 hi)) : MB P lo (hi + 1) b := by
  rcases h with ⟨h1, h2⟩ | ⟨i, h1, h2, h3, h4, h5⟩
  · refine Or.inl ⟨h1, fun k k0 k1 hk => ?_⟩
    by_cases e : k = hi
    · subst e
      rcases hb with hb | hb
      · exact hb hk
      · omega
    · exact h2 k k0 (by omega) hk
  · refine Or.inr ⟨i, h1, h2, by omega, h4, fun j j0 j1 hj => ?_⟩
    by_cases e : j = hi
    · subst e
      rcases hb with hb | hb
      · exact absurd hj hb
      · rw [h1] at hb
        omega
    · exact h5 j j0 (by omega) hj
theorem MB_0 {P : Nat → Prop} {lo : Nat} : MB P lo lo (-1) := Or.inl ⟨rfl, fun k k0 k1 => by omega⟩
theorem MB_x {P : Nat → Prop} {lo hi k : Nat} (h0 : lo ≤ k) (h1 : k < hi) (hP : P k) (hs : ∀ j : Nat, lo ≤ j → j < hi → P j → pc7 k ≤ pc7 j) (hf : ∀ j : Nat, j < k → P j → pc7 j = pc7 k → False) : MB P lo hi k := by
  refine Or.inr ⟨k, rfl, h0, h1, hP, fun j j0 j1 hj => ?_⟩
  have a := hs j j0 j1 hj
  by_cases e : pc7 k < pc7 j
  · exact Or.inl e
  · refine Or.inr ⟨by omega, ?_⟩
    by_cases e2 : j < k
    · exact absurd (by omega) (hf j e2 hj)
    · omega
/-- what fbr answers -/
theorem fbr_t {N M : Int → Int} {day n : Int} : ∀ (m k : Nat), (fbr N M day n m k = -1 ∧ ∀ j : Nat, k ≤ j → j < k + m → ¬ (pc7 j = n ∧ allW N (abB N M day j) = [])) ∨ ∃ i : Nat, fbr N M day n m k = i ∧ k ≤ i ∧ i < k + m ∧ (pc7 i = n ∧ allW N (abB N M day i) = []) ∧ ∀ j : Nat, k ≤ j → j < i → ¬ (pc7 j = n ∧ allW N (abB N M day j) = [])
  | 0, k => Or.inl ⟨rfl, fun j j0 j1 => by omega⟩
  | m + 1, k => by
    by_cases e : pc7 k = n ∧ (allW N (abB N M day k)).isEmpty = true
    · have e1 : fbr N M day n (m + 1) k = k := if_pos e
      exact Or.inr ⟨k, e1, Nat.le_refl _, by omega, ⟨e.1, List.isEmpty_iff.mp e.2⟩, fun j j0 j1 => by omega⟩
    · have e1 : fbr N M day n (m + 1) k = fbr N M day n m (k + 1) := if_neg e
      have e2 : ¬ (pc7 k = n ∧ allW N (abB N M day k) = []) := fun q => e ⟨q.1, List.isEmpty_iff.mpr q.2⟩
      rw [e1]
      rcases fbr_t (N := N) (M := M) (day := day) (n := n) m (k + 1) with ⟨h1, h2⟩ | ⟨i, h1, h2, h3, h4, h5⟩
      · refine Or.inl ⟨h1, fun j j0 j1 => ?_⟩
        by_cases e3 : j = k
        · rw [e3]; exact e2
        · exact h2 j (by omega) (by omega)
      · refine Or.inr ⟨i, h1, by omega, by omega, h4, fun j j0 j1 => ?_⟩
        by_cases e3 : j = k
        · rw [e3]; exact e2
        · exact h5 j (by omega) j1
theorem all_M {N M : Int → Int} (hN : Inv N) (hM : ∀ p, 0 ≤ p → p < 7 → M p = 0) (day mis : Int) : allW N (abB N M day mis) = allW N (abB N z0 day mis) := by
  have hH := hN.1
  unfold InvH at hH
  unfold allW
  refine agr_wl hN (fun _ _ => rfl) (fun s p s0 s1 p0 p1 => ?_) _ 0 nb (by omega) (by omega) (nb_b (by omega))
  unfold abB
  rw [mayS_M hN hM ⟨p0, p1⟩]
theorem fbr_M {N M : Int → Int} (hN : Inv N) (hM : ∀ p, 0 ≤ p → p < 7 → M p = 0) {day n : Int} : ∀ (m k : Nat), fbr N M day n m k = fbr N z0 day n m k
  | 0, _ => rfl
  | m + 1, k => by
    unfold fbr
    rw [all_M hN hM, fbr_M hN hM m (k + 1)]
theorem pc_set : ∀ p, p < 8 → ∀ k, k < 2 ^ p → (1 ≤ k → 1 ≤ pc7 ((k : Nat) : Int)) ∧ pc7 ((k : Nat) : Int) ≤ ((p : Nat) : Int) := by decide +kernel
