/-! texts are worked out -/
theorem dpt_push {f : Int → Int} {k : Nat} (h : 0 ≤ f k) : dpt f (k + 1) = dpt f k + 1 := by
  show dpt f k + _ = _
  rw [if_pos h]
theorem dpt_not {f : Int → Int} {k : Nat} (h : f k = -10) : dpt f (k + 1) = dpt f k := by
  show dpt f k + _ = _
  rw [if_neg (by omega), if_pos h]
  omega
theorem dpt_bin {f : Int → Int} {k : Nat} (h : f k < 0) (h2 : f k ≠ -10) : dpt f (k + 1) = dpt f k - 1 := by
  show dpt f k + _ = _
  rw [if_neg (by omega), if_neg h2]
  omega
theorem evA_push {f g : Int → Int} {k : Nat} (h : 0 ≤ f k) : evA f g (k + 1) = ru (evA f g k) (dpt f k) (if f k < 10000 then f k else g (f k - 10000)) := by
  show (if _ then _ else _) = _
  rw [if_pos h]
theorem evA_not {f g : Int → Int} {k : Nat} (h : f k = -10) : evA f g (k + 1) = ru (evA f g k) (dpt f k - 1) (if evA f g k (dpt f k - 1) = 0 then 1 else 0) := by
  show (if _ then _ else _) = _
  rw [if_neg (by omega), if_pos h]
theorem evA_bin {f g : Int → Int} {k : Nat} (h : f k < 0) (h2 : f k ≠ -10) : evA f g (k + 1) = ru (evA f g k) (dpt f k - 2) (two (f k) (evA f g k (dpt f k - 2)) (evA f g k (dpt f k - 1))) := by
  show (if _ then _ else _) = _
  rw [if_neg (by omega), if_neg h2]
theorem dpt_b {f : Int → Int} {n : Nat} (h : wfc f n) : ∀ k : Nat, k ≤ n → 0 ≤ dpt f k ∧ dpt f k ≤ k
  | 0, _ => ⟨Int.le_refl 0, Int.le_refl 0⟩
  | k + 1, hk => by
    have ih := dpt_b h k (by omega)
    have q := h.2.2.2 k (by omega)
    by_cases h1 : 0 ≤ f k
    · rw [dpt_push h1]; omega
    · by_cases h2 : f k = -10
      · rw [dpt_not h2]; omega
      · rw [dpt_bin (by omega) h2]; omega
theorem ru_c {A E : Int → Int} {j v i : Int} (h : i ≠ j → A i = E i) : ru A j v i = ru E j v i := by
  unfold ru
  split
  · rfl
  · rename_i q
    exact h q
/-- 205 two, 24 joined -/
def csg (w : Int) : Int := if w = -1 then 124 else if w = -2 then 38 else if w = -3 then 60 else if w = -4 then 61 else if w = -5 then 62 else if w = -6 then 43 else if w = -7 then 45 else if w = -8 then 42 else 47
theorem w_two {d : Nat} {I : mj_I} {S : mj_S} {Q : mj_Q} (w a b : Int) (hw : -9 ≤ w ∧ w ≤ -1) (h : Q (some (.inl (two w a b))) I S) : mj_C d 205 [.inl w, .inl a, .inl b] I S Q ∧ mj_C d 24 [.inl (csg w), .inl a, .inl b] I S Q := by
  have hc : w = -1 ∨ w = -2 ∨ w = -3 ∨ w = -4 ∨ w = -5 ∨ w = -6 ∨ w = -7 ∨ w = -8 ∨ w = -9 := by omega
  rcases hc with e | e | e | e | e | e | e | e | e <;> subst e
  · rw [show two (-1) a b = (if a ≠ 0 ∨ b ≠ 0 then 1 else 0) from rfl] at h
    refine ⟨mj_C_of 30 ?_, mj_C_of 30 ?_⟩ <;> (repeat' (first | assumption | exact Or.inl rfl | exact Or.inr rfl | (intro hz; exact absurd hz (by decide)) | refine And.intro ?_ ?_ | intro _)) <;> first | (rw [if_pos (by omega)] at h; exact h) | (rw [if_neg (by omega)] at h; exact h)
  · rw [show two (-2) a b = (if a ≠ 0 ∧ b ≠ 0 then 1 else 0) from rfl] at h
    refine ⟨mj_C_of 30 ?_, mj_C_of 30 ?_⟩ <;> (repeat' (first | assumption | exact Or.inl rfl | exact Or.inr rfl | (intro hz; exact absurd hz (by decide)) | refine And.intro ?_ ?_ | intro _)) <;> first | (rw [if_pos (by omega)] at h; exact h) | (rw [if_neg (by omega)] at h; exact h)
  · rw [show two (-3) a b = (if a < b then 1 else 0) from rfl] at h
    refine ⟨mj_C_of 30 ?_, mj_C_of 30 ?_⟩ <;> (repeat' (first | assumption | exact Or.inl rfl | exact Or.inr rfl | (intro hz; exact absurd hz (by decide)) | refine And.intro ?_ ?_ | intro _)) <;> first | (rw [if_pos (by omega)] at h; exact h) | (rw [if_neg (by omega)] at h; exact h)
  · rw [show two (-4) a b = (if a = b then 1 else 0) from rfl] at h
    refine ⟨mj_C_of 30 ?_, mj_C_of 30 ?_⟩ <;> (repeat' (first | assumption | exact Or.inl rfl | exact Or.inr rfl | (intro hz; exact absurd hz (by decide)) | refine And.intro ?_ ?_ | intro _)) <;> first | (rw [if_pos (by omega)] at h; exact h) | (rw [if_neg (by omega)] at h; exact h)
  · rw [show two (-5) a b = (if b < a then 1 else 0) from rfl] at h
    refine ⟨mj_C_of 30 ?_, mj_C_of 30 ?_⟩ <;> (repeat' (first | assumption | exact Or.inl rfl | exact Or.inr rfl | (intro hz; exact absurd hz (by decide)) | refine And.intro ?_ ?_ | intro _)) <;> first | (rw [if_pos (by omega)] at h; exact h) | (rw [if_neg (by omega)] at h; exact h)
  · rw [show two (-6) a b = mj_wr (a + b) from rfl] at h
    refine ⟨mj_C_of 30 ?_, mj_C_of 30 ?_⟩ <;> (repeat' (first | assumption | exact Or.inl rfl | exact Or.inr rfl | (intro hz; exact absurd hz (by decide)) | refine And.intro ?_ ?_ | intro _)) <;> exact h
  · rw [show two (-7) a b = mj_wr (a - b) from rfl] at h
    refine ⟨mj_C_of 30 ?_, mj_C_of 30 ?_⟩ <;> (repeat' (first | assumption | exact Or.inl rfl | exact Or.inr rfl | (intro hz; exact absurd hz (by decide)) | refine And.intro ?_ ?_ | intro _)) <;> exact h
  · rw [show two (-8) a b = mj_wr (a * b) from rfl] at h
    refine ⟨mj_C_of 30 ?_, mj_C_of 30 ?_⟩ <;> (repeat' (first | assumption | exact Or.inl rfl | exact Or.inr rfl | (intro hz; exact absurd hz (by decide)) | refine And.intro ?_ ?_ | intro _)) <;> exact h
  · rw [show two (-9) a b = (if b = 0 then 0 else mj_wr (a.tdiv b)) from rfl] at h
    refine ⟨mj_C_of 30 ?_, mj_C_of 30 ?_⟩ <;> (repeat' (first | assumption | exact Or.inl rfl | exact Or.inr rfl | (intro hz; exact absurd hz (by decide)) | refine And.intro ?_ ?_ | intro _)) <;> first | (rw [if_pos (by omega)] at h; exact h) | (rw [if_neg (by omega)] at h; exact h)
theorem c_joined {d : Nat} {I : mj_I} {S : mj_S} {Q : mj_Q} (v w a b : Int) (hv : v = csg w) (hw : -9 ≤ w ∧ w ≤ -1) (h : Q (some (.inl (two w a b))) I S) : mj_C d 24 [.inl v, .inl a, .inl b] I S Q := by
  subst hv
  exact (w_two w a b hw h).2
/-- 203 counts -/
theorem m_counts {d : Nat} {I : mj_I} {S : mj_S} {Q : mj_Q} (hS : mk_Sh S) (key : Int) (h5 : 0 ≤ rd I 151 5 ∧ rd I 151 5 ≤ 14) (hN : ∀ t, 0 ≤ t → t < rd I 151 5 → InvT (rd I 151) t) (h : Q (some (.inl (latT (rd I 151) key))) I S) : mj_C d 203 [.inr 150, .inl key] I S Q := by
  have loop : ∀ n : Nat, (n : Int) ≤ rd I 151 5 → ∀ z : Int, z = (n : Int) - 1 → Q (some (.inl (lat (rd I 151) key n))) I S → xW d 203 7 [some (.inr (13, 0, 150, 0)), some (.inl key), some (.inl z)] [] I S Q := by
    intro n
    induction n with
    | zero =>
      intro _ z hz h
      subst hz
      refine x_hd false [7] 20 ?_
      (repeat' (first | with_reducible assumption | with_reducible exact rfl | with_reducible exact trivial | (with_reducible (show (_ : Int) ≤ _); omega) | (with_reducible (show (_ : Int) < _); omega) | (with_reducible (show (_ : Nat) < _); omega) | (with_reducible (show (_ : Nat) ≤ _); omega) | with_reducible exact Or.inl rfl | with_reducible exact Or.inr rfl | with_reducible exact Or.inl trivial | with_reducible exact Or.inr trivial | (intro hz; exact absurd hz (by decide)) | (intro hz; exfalso; omega) | refine And.intro ?_ ?_ | intro _))
      exact h
    | succ n ih =>
      intro hn z hz h
      have hz2 : z = n := by omega
      subst hz2
      clear hz
      obtain ⟨k, m, hk, hv, hw, -⟩ := hN n (by omega) (by omega)
      have hm := hw.2.1
      have e1 : (rd I 151 (238 + 2 * (n : Int))).tdiv 1000 = k := by
        rw [hv, Int.tdiv_eq_ediv_of_nonneg (by omega)]
        omega
      unfold lat at h
      refine x_hd false [7] 20 ?_
      (repeat' (first | with_reducible assumption | with_reducible exact rfl | with_reducible exact trivial | (with_reducible (show (_ : Int) ≤ _); omega) | (with_reducible (show (_ : Int) < _); omega) | (with_reducible (show (_ : Nat) < _); omega) | (with_reducible (show (_ : Nat) ≤ _); omega) | with_reducible exact Or.inl rfl | with_reducible exact Or.inr rfl | with_reducible exact Or.inl trivial | with_reducible exact Or.inr trivial | (intro hz; exact absurd hz (by decide)) | (intro hz; exfalso; omega) | refine And.intro ?_ ?_ | intro _))
      · rename_i q
        rw [if_neg q] at h
        exact ih (by omega) _ (by omega) h
      · rename_i q
        rw [if_pos q] at h
        exact h
  refine x_C false [.inr (13, 0, 150, 0), .inl key] [7] 20 hS ⟨xok_m hS, trivial, trivial⟩ ?_
  (repeat' (first | with_reducible assumption | with_reducible exact rfl | with_reducible exact trivial | (with_reducible (show (_ : Int) ≤ _); omega) | (with_reducible (show (_ : Int) < _); omega) | (with_reducible (show (_ : Nat) < _); omega) | (with_reducible (show (_ : Nat) ≤ _); omega) | with_reducible exact Or.inl rfl | with_reducible exact Or.inr rfl | with_reducible exact Or.inl trivial | with_reducible exact Or.inr trivial | (intro hz; exact absurd hz (by decide)) | (intro hz; exfalso; omega) | refine And.intro ?_ ?_ | intro _))
  exact loop (rd I 151 5).toNat (by omega) _ (by omega) h
/-- 204 worksOut -/
theorem m_worksOut {d : Nat} {I : mj_I} {S : mj_S} {Q : mj_Q} (hS : mk_Sh S) (t : Int) (g : Int → Int) (hd : 0 < d) (ht : 0 ≤ t ∧ t < 14) (hT : InvT (rd I 151) t) (hg : ∀ j, 0 ≤ j → j < 3 → rd I 163 j = g j) (hg3 : rd I 151 (238 + 2 * t) < 1000 → rd I 163 3 = g 3) (h : ∀ I', fr (fun a => a = 162) I I' → Q (some (.inl (evT (rd I 151) t g))) I' S) : mj_C d 204 [.inr 150, .inl t] I S Q := by
  obtain ⟨key, n, hk, hv, hw, -, hkn3⟩ := hT
  have hn : (rd I 151 (238 + 2 * t)).tmod 1000 = n := by
    have := hw.2.1
    rw [hv, Int.tmod_eq_emod_of_nonneg (by omega)]
    omega
  have hn2 : (rd I 151 (238 + 2 * t) % 1000).toNat = n := by
    have := hw.2.1
    omega
  unfold evT at h
  rw [hn2] at h
  have loop : ∀ m k : Nat, k + m = n → ∀ (top kk : Int) (w : Option xV) (J : mj_I), top = dpt (wds (rd I 151) t) k → kk = k → fr (fun a => a = 162) I J → (∀ i, 0 ≤ i → i < top → rd J 162 i = evA (wds (rd I 151) t) g k i) →
      xW d 204 15 [some (.inr (13, 0, 150, 0)), some (.inl t), some (.inl top), some (.inl (n : Int)), some (.inl kk), w] [] J S Q := by
    intro m
    induction m with
    | zero =>
      intro k hkm top kk w J h1 h2 h3 h4
      have e : k = n := by omega
      subst e
      have hd1 := hw.2.2.1
      refine x_hd false [15] 60 ?_
      (repeat' (first | with_reducible assumption | with_reducible exact rfl | with_reducible exact trivial | (with_reducible (show (_ : Int) ≤ _); omega) | (with_reducible (show (_ : Int) < _); omega) | (with_reducible (show (_ : Nat) < _); omega) | (with_reducible (show (_ : Nat) ≤ _); omega) | with_reducible exact Or.inl rfl | with_reducible exact Or.inr rfl | with_reducible exact Or.inl trivial | with_reducible exact Or.inr trivial | (intro hz; exact absurd hz (by decide)) | (intro hz; exfalso; omega) | refine And.intro ?_ ?_ | intro _))
      have h5 := h4 0 (by omega) (by omega)
      rw [h5]
      exact h J h3
    | succ m ih =>
      intro k hkm top kk w J h1 h2 h3 h4
      have hkn : k < n := by omega
      have hq := hw.2.2.2 k hkn
      have hb := dpt_b hw k (by omega)
      have hn95 := hw.2.1
      have e151 : rd J 151 = rd I 151 := h3.r (by omega)
      have e163 : rd J 163 = rd I 163 := h3.r (by omega)
      have ew : rd J 151 (266 + 96 * t + kk) = wds (rd I 151) t k := by rw [e151, h2]; rfl
      have hgn : ∀ w, w = wds (rd I 151) t k → 10000 ≤ w → rd I 163 (w - 10000) = g (w - 10000) := by
        intro w ew hw0
        by_cases h9 : w - 10000 < 3
        · exact hg _ (by omega) h9
        · by_cases hk0 : 0 < key
          · have := hkn3 hk0 k hkn
            omega
          · have e9 : w - 10000 = 3 := by omega
            rw [e9]
            have := hw.2.1
            exact hg3 (by omega)
      refine x_hd false [15] 60 ?_
      (repeat' (first | rw [ew] | refine (w_two _ _ _ ?_ ?_).1 | with_reducible assumption | with_reducible exact rfl | with_reducible exact trivial | (with_reducible (show (_ : Int) ≤ _); omega) | (with_reducible (show (_ : Int) < _); omega) | (with_reducible (show (_ : Nat) < _); omega) | (with_reducible (show (_ : Nat) ≤ _); omega) | with_reducible exact Or.inl rfl | with_reducible exact Or.inr rfl | with_reducible exact Or.inl trivial | with_reducible exact Or.inr trivial | (intro hz; exact absurd hz (by decide)) | (intro hz; exfalso; omega) | refine And.intro ?_ ?_ | intro _))
      · rename_i hx hy
        refine ih (k + 1) (by omega) _ _ _ _ ?_ ?_ ?_ ?_
        · rw [dpt_bin (by omega) (by omega)]; omega
        · omega
        · exact h3.up rfl _ _
        · intro i hi0 hi1
          rw [rd_up (by omega) (by omega), evA_bin (by omega) (by omega), ← h1, ← h4 (top - 2) (by omega) (by omega), ← h4 (top - 1) (by omega) (by omega)]
          rw [show top + -1 - 1 = top - 2 by omega, show top + -1 = top - 1 by omega]
          exact ru_c (fun hne => h4 i hi0 (by omega))
      · rename_i hx hy hz
        refine ih (k + 1) (by omega) _ _ _ _ ?_ ?_ ?_ ?_
        · rw [dpt_not (by omega)]; omega
        · omega
        · exact h3.up rfl _ _
        · intro i hi0 hi1
          rw [rd_up (by omega) (by omega), evA_not (by omega), ← h1, ← h4 (top - 1) (by omega) (by omega), if_neg hz]
          exact ru_c (fun hne => h4 i hi0 (by omega))
      · rename_i hx hy hz
        refine ih (k + 1) (by omega) _ _ _ _ ?_ ?_ ?_ ?_
        · rw [dpt_not (by omega)]; omega
        · omega
        · exact h3.up rfl _ _
        · intro i hi0 hi1
          rw [rd_up (by omega) (by omega), evA_not (by omega), ← h1, ← h4 (top - 1) (by omega) (by omega), if_pos hz]
          exact ru_c (fun hne => h4 i hi0 (by omega))
      · rename_i hx hy
        refine ih (k + 1) (by omega) _ _ _ _ ?_ ?_ ?_ ?_
        · rw [dpt_push (by omega)]; omega
        · omega
        · exact h3.up rfl _ _
        · intro i hi0 hi1
          rw [rd_up (by omega) (by omega), evA_push (by omega), ← h1, if_neg (by omega), e163, hgn _ rfl (by omega)]
          exact ru_c (fun hne => h4 i hi0 (by omega))
      · rename_i hx hy
        refine ih (k + 1) (by omega) _ _ _ _ ?_ ?_ ?_ ?_
        · rw [dpt_push (by omega)]; omega
        · omega
        · exact h3.up rfl _ _
        · intro i hi0 hi1
          rw [rd_up (by omega) (by omega), evA_push (by omega), ← h1, if_pos (by omega)]
          exact ru_c (fun hne => h4 i hi0 (by omega))
  refine x_C false [.inr (13, 0, 150, 0), .inl t] [15] 20 hS ⟨xok_m hS, trivial, trivial⟩ ?_
  (repeat' (first | with_reducible assumption | with_reducible exact rfl | with_reducible exact trivial | (with_reducible (show (_ : Int) ≤ _); omega) | (with_reducible (show (_ : Int) < _); omega) | (with_reducible (show (_ : Nat) < _); omega) | (with_reducible (show (_ : Nat) ≤ _); omega) | with_reducible exact Or.inl rfl | with_reducible exact Or.inr rfl | with_reducible exact Or.inl trivial | with_reducible exact Or.inr trivial | (intro hz; exact absurd hz (by decide)) | (intro hz; exfalso; omega) | refine And.intro ?_ ?_ | intro _))
  rw [hn]
  exact loop n 0 (by omega) _ _ _ _ rfl rfl fr.refl (fun i h1 h2 => by omega)
