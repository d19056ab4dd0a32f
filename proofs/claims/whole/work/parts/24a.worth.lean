/-! a text of the class is worked out -/
theorem tk_bin {key u w : Int} (htk : tk key u w) (h1 : u ≤ -6) (h2 : u ≠ -33) : -u = csg w ∧ -9 ≤ w ∧ w ≤ -1 := by
  unfold tk at htk
  rcases htk with q | q | q | q | q | q | q | q | q | q | q | q | q | q
  · omega
  · omega
  · omega
  · omega
  · omega
  all_goals (obtain ⟨rfl, rfl⟩ := q; decide)
theorem tk_bd {key u w : Int} (htk : tk key u w) : -124 ≤ u ∧ u ≤ 9999 ∧ (0 ≤ u → w = u) ∧ (u = -33 → w = -10) := by
  unfold tk at htk
  rcases htk with q | q | q | q | q | q | q | q | q | q | q | q | q | q
  all_goals omega
theorem tk_name {key u w : Int} (htk : tk key u w) {g : Int → Int} (G : Int → Int) (hg0 : key = 0 → ∀ j, 0 ≤ j → j < 4 → G j = g j) (hg1 : key = 1 → G 1 = g 0 ∧ G 2 = g 1 ∧ G 4 = g 2) (hg2 : key = 2 → G 1 = g 0 ∧ G 2 = g 1 ∧ G 3 = g 2) (h1 : -6 < u) (h2 : u < 0) : 10000 ≤ w ∧ w ≤ 10003 ∧ G (-1 - u) = g (w - 10000) := by
  unfold tk at htk
  rcases htk with q | q | q | q | q | q | q | q | q | q | q | q | q | q
  · omega
  · have e := hg0 q.1 (-1 - u) (by omega) (by omega)
    rw [show w - 10000 = -1 - u by omega]
    omega
  · have e := hg1 q.1
    rcases q.2 with ⟨e3, e4⟩ | ⟨e3, e4⟩ | ⟨e3, e4⟩ <;> subst e3 <;> subst e4
    · exact ⟨by omega, by omega, e.1⟩
    · exact ⟨by omega, by omega, e.2.1⟩
    · exact ⟨by omega, by omega, e.2.2⟩
  · have e := hg2 q.1
    rcases q.2 with ⟨e3, e4⟩ | ⟨e3, e4⟩ | ⟨e3, e4⟩ <;> subst e3 <;> subst e4
    · exact ⟨by omega, by omega, e.1⟩
    · exact ⟨by omega, by omega, e.2.1⟩
    · exact ⟨by omega, by omega, e.2.2⟩
  all_goals omega
/-- 23 valueOf -/
theorem c_valueOf {d : Nat} {I : mj_I} {S : mj_S} {Q : mj_Q} (hS : mk_Sh S) {b : Nat} (hb : mB b) (k : Int) (hk : 0 ≤ k ∧ k < 5) (h : Q (some (.inl (rd I (b + 12) k))) I S) : mj_C d 23 [.inl k, .inr (b + 12)] I S Q := by
  refine x_C false [.inl k, .inr (21, 0, b + 12, 5)] [] 20 hS ⟨trivial, (x_F2 hS (xok_b hS hb) (show x_fld 2 b b 15 = some (21, 0, b + 12, 5) from rfl)).2, trivial⟩ ?_
  (repeat' (first | with_reducible assumption | with_reducible exact rfl | with_reducible exact trivial | (with_reducible (show (_ : Int) ≤ _); omega) | (with_reducible (show (_ : Int) < _); omega) | (with_reducible (show (_ : Nat) < _); omega) | (with_reducible (show (_ : Nat) ≤ _); omega) | with_reducible exact Or.inl rfl | with_reducible exact Or.inr rfl | with_reducible exact Or.inl trivial | with_reducible exact Or.inr trivial | (intro hz; exact absurd hz (by decide)) | (intro hz; exfalso; omega) | refine And.intro ?_ ?_ | intro _))
  exact h
/-- 22 worth -/
theorem c_worth {d : Nat} {I : mj_I} {S : mj_S} {Q : mj_Q} (hS : mk_Sh S) {b x : Nat} (hb : mB b) (N : Int → Int) (t : Int) (g : Int → Int) (hd : 0 < d) (hT : InvT N t) (hx : CbX I S x N t)
    (hg0 : I x 0 = 0 → ∀ j, 0 ≤ j → j < 4 → rd I (b + 12) j = g j) (hg1 : I x 0 = 1 → rd I (b + 12) 1 = g 0 ∧ rd I (b + 12) 2 = g 1 ∧ rd I (b + 12) 4 = g 2) (hg2 : I x 0 = 2 → rd I (b + 12) 1 = g 0 ∧ rd I (b + 12) 2 = g 1 ∧ rd I (b + 12) 3 = g 2)
    (h : ∀ I', fr (fun a => a = b + 13) I I' → Q (some (.inl (evT N t g))) I' S) : mj_C d 22 [.inr x, .inr (b + 12), .inr (b + 13)] I S Q := by
  obtain ⟨a1, a2, a3, a4, a5, a6, key, n, a7, a8, a9, a10, a11, a12⟩ := hx
  obtain ⟨key', n', -, hv, hw, -⟩ := hT
  have hn95 := hw.2.1
  have hb61 : b ≤ 61 := by unfold mB at hb; omega
  obtain ⟨rfl, rfl⟩ : key' = key ∧ n' = n := by omega
  have hn2 : (N (238 + 2 * t) % 1000).toNat = n' := by omega
  unfold evT at h
  rw [hn2] at h
  generalize hy : mj_rf S x 2 = y at a4 a5 a6 a7 a12
  have ha7 : (mj_ln S y : Int) = n' := by rw [a7]
  have hgv := fun (u w : Int) (q : tk key' u w) => tk_name q (g := g) (rd I (b + 12)) (fun e => hg0 (by omega)) (fun e => hg1 (by omega)) (fun e => hg2 (by omega))
  have hbn := fun (u w : Int) (q : tk key' u w) => tk_bin q
  have hbd := fun (u w : Int) (q : tk key' u w) => tk_bd q
  have okg : xok S (21, 0, b + 12, 5) := (x_F2 hS (xok_b hS hb) (show x_fld 2 b b 15 = some (21, 0, b + 12, 5) from rfl)).2
  have oks : xok S (21, 0, b + 13, 96) := (x_F2 hS (xok_b hS hb) (show x_fld 2 b b 16 = some (21, 0, b + 13, 96) from rfl)).2
  have loop : ∀ m k : Nat, k + m = n' → ∀ (top kk : Int) (w : Option xV) (J : mj_I), top = dpt (wds N t) k → kk = k → fr (fun a => a = b + 13) I J → (∀ i, 0 ≤ i → i < top → rd J (b + 13) i = evA (wds N t) g k i) →
      xW d 22 4 [some (.inr (12, 0, x, 0)), some (.inr (21, 0, b + 12, 5)), some (.inr (21, 0, b + 13, 96)), some (.inl top), some (.inl kk), w] [] J S Q := by
    intro m
    induction m with
    | zero =>
      intro k hkm top kk w J h1 h2 h3 h4
      have e : k = n' := by omega
      subst e
      have hd1 := hw.2.2.1
      refine x_hd false [4] 60 ?_
      (repeat' (first | rw [hy] | rw [ha7] | exact Or.inl a6 | with_reducible assumption | with_reducible exact rfl | with_reducible exact trivial | (with_reducible (show (_ : Int) ≤ _); omega) | (with_reducible (show (_ : Int) < _); omega) | (with_reducible (show (_ : Nat) < _); omega) | (with_reducible (show (_ : Nat) ≤ _); omega) | with_reducible exact Or.inl rfl | with_reducible exact Or.inr rfl | with_reducible exact Or.inl trivial | with_reducible exact Or.inr trivial | (intro hz; exact absurd hz (by decide)) | (intro hz; exfalso; omega) | refine And.intro ?_ ?_ | intro _))
      have h5 := h4 0 (by omega) (by omega)
      rw [h5]
      exact h J h3
    | succ m ih =>
      intro k hkm top kk w J h1 h2 h3 h4
      have hkn : k < n' := by omega
      have hq := hw.2.2.2 k hkn
      have hdb := dpt_b hw k (by omega)
      have hub := a12 kk (by omega) (by omega)
      have e1 : rd J y = rd I y := h3.r (by omega)
      have e2 : rd J (b + 12) = rd I (b + 12) := h3.r (by omega)
      have ew : N (266 + 96 * t + kk) = wds N t k := by rw [h2]; rfl
      rw [← e1, ew] at hub
      have h6 := hbd _ _ hub
      have h7 := hgv _ _ hub
      have h8 := hbn _ _ hub
      refine x_hd false [4] 60 ?_
      (repeat' (first | rw [hy] | rw [ha7] | exact Or.inl a6 | exact (h8 (by omega) (by omega)).1 | exact (h8 (by omega) (by omega)).2 | refine c_joined _ (wds N t k) _ _ ?_ ?_ ?_ | refine c_valueOf hS hb _ ?_ ?_ | refine c_oneIf _ ?_ ?_ | with_reducible assumption | with_reducible exact rfl | with_reducible exact trivial | (with_reducible (show (_ : Int) ≤ _); omega) | (with_reducible (show (_ : Int) < _); omega) | (with_reducible (show (_ : Nat) < _); omega) | (with_reducible (show (_ : Nat) ≤ _); omega) | with_reducible exact Or.inl rfl | with_reducible exact Or.inr rfl | with_reducible exact Or.inl trivial | with_reducible exact Or.inr trivial | (intro hz; exact absurd hz (by decide)) | (intro hz; exfalso; omega) | refine And.intro ?_ ?_ | intro _))
      · rename_i hx hy2
        have hw9 := h8 (by omega) (by omega)
        refine ih (k + 1) (by omega) _ _ _ _ ?_ ?_ ?_ ?_
        · rw [dpt_bin (by omega) (by omega)]; omega
        · omega
        · exact h3.up rfl _ _
        · intro i hi0 hi1
          rw [rd_up (by omega) (by omega), evA_bin (by omega) (by omega), ← h1, ← h4 (top - 2) (by omega) (by omega), ← h4 (top - 1) (by omega) (by omega)]
          exact ru_c (fun hne => h4 i hi0 (by omega))
      · rename_i hx hy2 hz
        refine ih (k + 1) (by omega) _ _ _ _ ?_ ?_ ?_ ?_
        · rw [dpt_not (by omega)]; omega
        · omega
        · exact h3.up rfl _ _
        · intro i hi0 hi1
          rw [rd_up (by omega) (by omega), evA_not (by omega), ← h1, ← h4 (top - 1) (by omega) (by omega), if_neg hy2]
          exact ru_c (fun hne => h4 i hi0 (by omega))
      · rename_i hx hy2 hz
        refine ih (k + 1) (by omega) _ _ _ _ ?_ ?_ ?_ ?_
        · rw [dpt_not (by omega)]; omega
        · omega
        · exact h3.up rfl _ _
        · intro i hi0 hi1
          rw [rd_up (by omega) (by omega), evA_not (by omega), ← h1, ← h4 (top - 1) (by omega) (by omega), if_pos hy2]
          exact ru_c (fun hne => h4 i hi0 (by omega))
      · rename_i hx hy2
        have hw9 := h7 (by omega) (by omega)
        refine ih (k + 1) (by omega) _ _ _ _ ?_ ?_ ?_ ?_
        · rw [dpt_push (by omega)]; omega
        · omega
        · exact h3.up rfl _ _
        · intro i hi0 hi1
          rw [rd_up (by omega) (by omega), evA_push (by omega), ← h1, if_neg (by omega), e2, hw9.2.2]
          exact ru_c (fun hne => h4 i hi0 (by omega))
      · rename_i hx hy2
        refine ih (k + 1) (by omega) _ _ _ _ ?_ ?_ ?_ ?_
        · rw [dpt_push (by omega)]; omega
        · omega
        · exact h3.up rfl _ _
        · intro i hi0 hi1
          rw [rd_up (by omega) (by omega), evA_push (by omega), ← h1, if_pos (by omega), ← h6.2.2.1 (by omega)]
          exact ru_c (fun hne => h4 i hi0 (by omega))
  refine x_C false [.inr (12, 0, x, 0), .inr (21, 0, b + 12, 5), .inr (21, 0, b + 13, 96)] [4] 20 hS ⟨xok_t (by omega) (by decide) (by decide), okg, oks, trivial⟩ ?_
  (repeat' (first | with_reducible assumption | with_reducible exact rfl | with_reducible exact trivial | (with_reducible (show (_ : Int) ≤ _); omega) | (with_reducible (show (_ : Int) < _); omega) | (with_reducible (show (_ : Nat) < _); omega) | (with_reducible (show (_ : Nat) ≤ _); omega) | with_reducible exact Or.inl rfl | with_reducible exact Or.inr rfl | with_reducible exact Or.inl trivial | with_reducible exact Or.inr trivial | (intro hz; exact absurd hz (by decide)) | (intro hz; exfalso; omega) | refine And.intro ?_ ?_ | intro _))
  exact loop n' 0 (by omega) _ _ _ _ rfl rfl fr.refl (fun i h1 h2 => by omega)
