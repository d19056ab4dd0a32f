/-! Strings -/
def sOK (I : mj_I) (S : mj_S) (x n : Nat) (w : Nat → Int) : Prop := mj_tg S x = 41 ∧ mj_tg S (mj_rf S x 0) = 42 ∧ mj_ln S (mj_rf S x 0) = n ∧ n ≤ 100 ∧ I x 1 = 0 ∧ ∀ j, j < n → I (mj_rf S x 0) j = w j ∧ 0 ≤ w j ∧ w j ≤ 127
theorem k_and : ∀ n : Nat, n < 128 → mj_and (n : Int) 255 = n ∧ mj_c16 (n : Int) = n ∧ mj_shr (n : Int) 0 = n := by decide +kernel
theorem k_b8 : ∀ n : Nat, n < 256 → mj_b8 (n : Int) = (if n < 128 then (n : Int) else (n : Int) - 256) ∧ mj_c16 (n : Int) = n := by decide +kernel
def ixO (w : Nat → Int) (c : Int) : Nat → Nat → Int
  | 0, _ => -1
  | m + 1, i => if w i = c then i else ixO w c m (i + 1)
theorem c_coder {d : Nat} {I : mj_I} {S : mj_S} {Q : mj_Q} {x : Nat} (h41 : mj_tg S x = 41) (hc : I x 1 = 0) (h : Q (some (.inl 0)) I S) : mj_C d 76 [.inr x] I S Q := by
  refine mj_C_of 20 ?_
  (repeat' (first | rw [hc] | assumption | exact Or.inl rfl | exact Or.inr rfl | (intro hz; exact absurd hz (by decide)) | refine And.intro ?_ ?_ | intro _))
  all_goals decide
theorem c_latin {d : Nat} {I : mj_I} {S : mj_S} {Q : mj_Q} {x : Nat} (h41 : mj_tg S x = 41) (hc : I x 1 = 0) (h : Q (some (.inl 1)) I S) : mj_C d 78 [.inr x] I S Q := by
  refine mj_C_of 20 ?_
  (repeat' (first | assumption | exact Or.inl rfl | exact Or.inr rfl | (intro hz; exact absurd hz (by decide)) | refine And.intro ?_ ?_ | intro _))
  rename_i z
  exact absurd hc z
theorem c_slen {d : Nat} {I : mj_I} {S : mj_S} {Q : mj_Q} {x n : Nat} {w : Nat → Int} (hs : sOK I S x n w) (hd : 0 < d) (h : Q (some (.inl n)) I S) : mj_C d 75 [.inr x] I S Q := by
  obtain ⟨h1, h2, h3, h4, h5, h6⟩ := hs
  refine mj_C_of 20 ?_
  (repeat' (first | refine c_coder h1 h5 ?_ | assumption | exact Or.inl rfl | exact Or.inr rfl | (intro hz; exact absurd hz (by decide)) | refine And.intro ?_ ?_ | intro _))
  · omega
  · omega
  · have e := (k_and n (by omega)).2.2
    show Q (some (.inl (mj_shr ((mj_ln S (mj_rf S x 0) : Nat) : Int) 0))) I S
    rw [h3, e]
    exact h
theorem c_ckix {d : Nat} {I : mj_I} {S : mj_S} {Q : mj_Q} (j n : Int) (hj : 0 ≤ j ∧ j < n) (hd : 0 < d) (h : Q none I S) : mj_C d 80 [.inl j, .inl n] I S Q := by
  refine mj_C_of 20 ?_
  refine ⟨hd, mj_C_of 20 ?_⟩
  (repeat' (first | assumption | exact Or.inl rfl | exact Or.inr rfl | (intro hz; exact absurd hz (by decide)) | refine And.intro ?_ ?_ | intro _))
  · omega
  · omega
theorem c_chr {d : Nat} {I : mj_I} {S : mj_S} {Q : mj_Q} {x n : Nat} {w : Nat → Int} (hs : sOK I S x n w) (j : Int) (hj : 0 ≤ j ∧ j < n) (hd : 2 < d) (h : Q (some (.inl (w j.toNat))) I S) : mj_C d 77 [.inr x, .inl j] I S Q := by
  obtain ⟨h1, h2, h3, h4, h5, h6⟩ := hs
  have q := h6 j.toNat (by omega)
  have e := k_and (w j.toNat).toNat (by omega)
  rw [show (((w j.toNat).toNat : Nat) : Int) = w j.toNat by omega] at e
  refine mj_C_of 20 ?_
  refine ⟨h1, by omega, c_latin h1 h5 ⟨fun z => absurd z (by decide), fun _ => ⟨h1, by omega, mj_C_of 20 ?_⟩⟩⟩
  (repeat' (first | refine c_ckix _ _ ?_ ?_ ?_ | assumption | exact Or.inl rfl | exact Or.inr rfl | (intro hz; exact absurd hz (by decide)) | refine And.intro ?_ ?_ | intro _))
  all_goals first | omega | (rw [q.1, e.1, e.2.1]; omega) | (show Q (some (.inl (mj_c16 (mj_and (I (mj_rf S x 0) j.toNat) 255)))) I S; rw [q.1, e.1, e.2.1]; exact h)
theorem c_enc {d : Nat} {I : mj_I} {S : mj_S} {Q : mj_Q} (c : Int) (hc : 0 ≤ c ∧ c ≤ 255) (h : Q (some (.inl 1)) I S) : mj_C d 95 [.inl c] I S Q := by
  refine mj_C_of 20 ?_
  (repeat' (first | assumption | exact Or.inl rfl | exact Or.inr rfl | (intro hz; exact absurd hz (by decide)) | refine And.intro ?_ ?_ | intro _))
  all_goals (exfalso; omega)
theorem c_idx {d : Nat} {I : mj_I} {S : mj_S} {Q : mj_Q} {x n : Nat} {w : Nat → Int} (hs : sOK I S x n w) (hn : 0 < n) (c : Int) (hc : 0 ≤ c ∧ c ≤ 255) (hd : 3 < d) (h : Q (some (.inl (ixO w c n 0))) I S) : mj_C d 92 [.inr x, .inl c] I S Q := by
  have hs' := hs
  obtain ⟨h1, h2, h3, h4, h5, h6⟩ := hs
  have e8 := (k_b8 c.toNat (by omega)).1
  rw [show ((c.toNat : Nat) : Int) = c by omega] at e8
  have loop : ∀ (Q' : mj_Q) (v2 v3 : Int), v3 = n → ∀ (m i : Nat), i + m = n → Q' (some (.inl (ixO w c m i))) I S → mj_W (d - 1 - 1 - 1) 96 5 [some (.inr (mj_rf S x 0)), some (.inl c), some (.inl v2), some (.inl v3), some (.inl (mj_b8 c)), some (.inl i)] [] I S Q' := by
    intro Q' v2 v3 hv3 m
    subst hv3
    induction m with
    | zero =>
      intro i hi hQ
      refine mj_W_hd [5] 20 ?_
      refine ⟨fun _ => ?_, fun q => absurd (by omega) q⟩
      exact hQ
    | succ m ih =>
      intro i hi hQ
      have q6 := h6 i (by omega)
      refine mj_W_hd [5] 20 ?_
      refine ⟨fun q => absurd q (by omega), fun _ => ⟨⟨Or.inr h2, by omega, by omega⟩, fun z => ?_, fun z => ?_⟩⟩
      · rw [show Int.toNat (i : Int) = i by omega, q6.1, e8] at z
        have e : ixO w c (m + 1) i = ixO w c m (i + 1) := if_neg (by split at z <;> omega)
        rw [e] at hQ
        have k1 := ih (i + 1) (by omega) hQ
        rw [show ((i + 1 : Nat) : Int) = mj_wr ((i : Int) + 1) by rw [mj_wr_s (by omega) (by omega)]; omega] at k1
        exact k1
      · have e : ixO w c (m + 1) i = i := if_pos (by rw [show Int.toNat (i : Int) = i by omega, q6.1, e8] at z; split at z <;> omega)
        rw [e] at hQ
        exact hQ
  refine mj_C_of 20 ?_
  refine ⟨h1, by omega, mj_C_of 20 ?_⟩
  refine ⟨h1, by omega, c_latin h1 h5 ⟨fun z => absurd z (by decide), fun _ => ⟨h1, h1, by omega, c_slen hs' (by omega) ?_⟩⟩⟩
  refine ⟨by omega, mj_C_of 40 ?_⟩
  refine ⟨by omega, c_enc c hc ?_⟩
  refine ⟨fun _ => ⟨⟨by omega, by omega⟩, ?_⟩, fun z => absurd z (by decide)⟩
  rw [h3]
  refine ⟨fun _ => ⟨by omega, mj_C_vs [5] 20 (loop _ _ _ (by omega) n 0 (by omega) ?_)⟩, fun z => absurd (by omega) z⟩
  exact h
def wrd (i : Nat) (j : Nat) : Int := ((mj_byt.getD i []).getD j 0).toInt
theorem s_ok {L : Nat} {xs : Nat → Int32} {I : mj_I} {S : mj_S} (h1 : ∀ a, a < 20 → I a = mj_I0 xs a) (h2 : ∀ a, a < 20 → S.1 a = (mj_S0 L).1 a ∧ S.2.1 a = (mj_S0 L).2.1 a) (i : Nat) (hi : i < 7) : sOK I S (3 + i) (mj_sln.getD i 0) (wrd i) := by
  have t1 : mj_tg S (3 + i) = 41 := by
    unfold mj_tg
    rw [(h2 (3 + i) (by omega)).2]
    show mj_otg (3 + i) = 41
    unfold mj_otg
    rw [if_neg (by omega), if_pos (by omega)]
  have r1 : mj_rf S (3 + i) 0 = 10 + i := by
    show S.1 (3 + i) 0 = _
    rw [(h2 (3 + i) (by omega)).1]
    show (if 3 ≤ 3 + i ∧ 3 + i < 10 ∧ (0 : Nat) = 0 then 3 + i + 7 else 0) = _
    rw [if_pos (by omega)]
    omega
  have t2 : mj_tg S (10 + i) = 42 := by
    unfold mj_tg
    rw [(h2 (10 + i) (by omega)).2]
    show mj_otg (10 + i) = 42
    unfold mj_otg
    rw [if_neg (by omega), if_neg (by omega), if_pos (by omega)]
  have l2 : mj_ln S (10 + i) = mj_sln.getD i 0 := by
    unfold mj_ln
    rw [(h2 (10 + i) (by omega)).2]
    show (if 10 + i = 1 then L else if 10 + i = 2 then 6 else if 10 ≤ 10 + i ∧ 10 + i < 17 then mj_sln.getD (10 + i - 10) 0 else 0) = _
    rw [if_neg (by omega), if_neg (by omega), if_pos (by omega), show 10 + i - 10 = i by omega]
  have kb : ∀ i, i < 7 → mj_sln.getD i 0 ≤ 100 ∧ ∀ j, j < mj_sln.getD i 0 → 0 ≤ wrd i j ∧ wrd i j ≤ 127 := by decide +kernel
  refine ⟨t1, by rw [r1]; exact t2, by rw [r1]; exact l2, (kb i hi).1, ?_, fun j hj => ⟨?_, (kb i hi).2 j hj⟩⟩
  · rw [h1 (3 + i) (by omega)]
    unfold mj_I0
    rw [if_neg (by omega), if_neg (by omega), if_neg (by omega)]
  · rw [r1, h1 (10 + i) (by omega)]
    unfold mj_I0
    rw [if_neg (by omega), if_neg (by omega), if_pos (by omega), show 10 + i - 10 = i by omega]
    rfl
/-- whether the word from a to b is w -/
def spl (T : Int → Int) (a : Int) (w : Nat → Int) : Nat → Nat → Bool
  | 0, _ => true
  | m + 1, i => decide (T (a + i) = w i) && spl T a w m (i + 1)
/-- 74 spells -/
theorem c_spells {d : Nat} {I : mj_I} {S : mj_S} {Q : mj_Q} (hS : mk_Sh S) {T : Int → Int} {k a b : Int} (hT : rd I 116 = T) (hk : I 115 2 = k) (ha : I 115 3 = a) (hb : I 115 4 = b) (hb2 : 0 ≤ a ∧ a ≤ b ∧ b ≤ 96) {x n : Nat} {w : Nat → Int} (hs : sOK I S x n w) (hd : 3 < d)
    (h1 : (k = 1 ∧ b - a = n ∧ spl T a w n 0 = true) → Q (some (.inl 1)) I S) (h0 : ¬ (k = 1 ∧ b - a = n ∧ spl T a w n 0 = true) → Q (some (.inl 0)) I S) : mj_C d 74 [.inr 115, .inr x] I S Q := by
  have t115 : mj_tg S 115 = 8 := hS.t 115 (t := 8) (n := 9) (by decide +kernel)
  have t116 : mj_tg S 116 = 20 := hS.t 116 (t := 20) (n := 96) (by decide +kernel)
  have l116 : mj_ln S 116 = 96 := hS.l 116 (t := 20) (n := 96) (by decide +kernel)
  have r116 : mj_rf S 115 0 = 116 := hS.r 115 0 (by decide +kernel)
  have hrd : ∀ j : Int, 0 ≤ j → j < 96 → I 116 j.toNat = T j := fun j j0 j1 => by rw [← hT, rd_in j0 (by omega)]
  have hx := hs.1
  have hn := hs.2.2.2.1
  have d0 : 0 < d := by omega
  have d1 : 0 < d - 1 := by omega
  have d2 : 2 < d - 1 := by omega
  have loop : ∀ (m i : Nat), i + m = n → k = 1 → b - a = n → spl T a w n 0 = spl T a w m i → mj_W d 74 17 [some (.inr 115), some (.inr x), some (.inl (a + i))] [] I S Q := by
    intro m
    induction m with
    | zero =>
      intro i hi hk1 hba he
      refine mj_W_hd [17] 40 ?_
      refine ⟨t115, fun _ => ⟨Or.inr rfl, h1 ⟨hk1, hba, by rw [he]; rfl⟩⟩, fun z => absurd (by omega) z⟩
    | succ m ih =>
      intro i hi hk1 hba he
      have e1 : mj_wr (a + (i : Int) - I 115 3) = i := by rw [ha, mj_wr_s (by omega) (by omega)]; omega
      have e2 : I (mj_rf S 115 0) (a + (i : Int)).toNat = T (a + i) := by rw [r116]; exact hrd _ (by omega) (by omega)
      have es : spl T a w (m + 1) i = (decide (T (a + i) = w i) && spl T a w m (i + 1)) := rfl
      refine mj_W_hd [17] 40 ?_
      (repeat' (first | refine c_chr hs _ ?_ ?_ ?_ | assumption | exact Or.inl rfl | exact Or.inr rfl | (intro hz; exact absurd hz (by decide)) | refine And.intro ?_ ?_ | intro _))
      · omega
      · rw [r116]; exact Or.inl t116
      · omega
      · rw [r116, l116]; omega
      · rw [e1]; omega
      · rw [e1]; omega
      · rename_i _ z
        rw [e1, e2] at z
        have z' : T (a + i) = w i := z
        have k1 := ih (i + 1) (by omega) hk1 hba (by rw [he, es, decide_eq_true z', Bool.true_and])
        rw [show a + ((i + 1 : Nat) : Int) = mj_wr (a + (i : Int) + 1) by rw [mj_wr_s (by omega) (by omega)]; omega] at k1
        exact k1
      · rename_i _ z
        rw [e1, e2] at z
        have z' : ¬ T (a + i) = w i := z
        refine h0 (fun q => ?_)
        rw [he, es, decide_eq_false z', Bool.false_and] at q
        exact absurd q.2.2 (by decide)
  have hwb : mj_wr (I 115 4 - I 115 3) = b - a := by rw [ha, hb, mj_wr_s (by omega) (by omega)]
  refine mj_C_vs [17] 40 ?_
  (repeat' (first | refine c_slen hs ?_ ?_ | assumption | exact Or.inl rfl | exact Or.inr rfl | (intro hz; exact absurd hz (by decide)) | refine And.intro ?_ ?_ | intro _))
  · rename_i z
    exact h0 (fun q => z (by rw [hk]; exact q.1))
  · rename_i z1 z2
    rw [hwb] at z2
    have k1 := loop n 0 (by omega) (by rw [← hk]; exact z1) z2 rfl
    rw [show a + ((0 : Nat) : Int) = I 115 3 by omega] at k1
    exact k1
  · rename_i z1 z2
    rw [hwb] at z2
    exact h0 (fun q => z2 q.2.1)
/-- the key that a word is -/
def keyO (T : Int → Int) (k a b : Int) : Int := if k = 1 ∧ b - a = 3 ∧ spl T a (wrd 0) 3 0 = true then 0 else if k = 1 ∧ b - a = 4 ∧ spl T a (wrd 1) 4 0 = true then 1 else if k = 1 ∧ b - a = 4 ∧ spl T a (wrd 2) 4 0 = true then 2 else -1
/-- 73 keyHere -/
theorem c_keyHere {d : Nat} {I : mj_I} {S : mj_S} {Q : mj_Q} (hS : mk_Sh S) {L : Nat} {xs : Nat → Int32} (hO1 : ∀ a, a < 20 → I a = mj_I0 xs a) (hO2 : ∀ a, a < 20 → S.1 a = (mj_S0 L).1 a ∧ S.2.1 a = (mj_S0 L).2.1 a) {T : Int → Int} {k a b : Int} (hT : rd I 116 = T) (hk : I 115 2 = k) (ha : I 115 3 = a) (hb : I 115 4 = b) (hb2 : 0 ≤ a ∧ a ≤ b ∧ b ≤ 96) (hd : 4 < d)
    (h : Q (some (.inl (keyO T k a b))) I S) : mj_C d 73 [.inr 115] I S Q := by
  have t115 : mj_tg S 115 = 8 := hS.t 115 (t := 8) (n := 9) (by decide +kernel)
  have d0 : 0 < d := by omega
  have d3 : 3 < d - 1 := by omega
  have s0 : sOK I S 3 3 (wrd 0) := s_ok hO1 hO2 0 (by decide)
  have s1 : sOK I S 4 4 (wrd 1) := s_ok hO1 hO2 1 (by decide)
  have s2 : sOK I S 5 4 (wrd 2) := s_ok hO1 hO2 2 (by decide)
  refine mj_C_of 40 ?_
  refine ⟨t115, d0, c_spells hS hT hk ha hb hb2 s0 d3 (fun q1 => ⟨fun z => absurd z (by decide), fun _ => ?_⟩) (fun q1 => ⟨fun _ => ?_, fun z => absurd rfl z⟩)⟩
  · unfold keyO at h
    rw [if_pos (show k = 1 ∧ b - a = 3 ∧ spl T a (wrd 0) 3 0 = true from q1)] at h
    exact h
  refine ⟨t115, d0, c_spells hS hT hk ha hb hb2 s1 d3 (fun q2 => ⟨fun z => absurd z (by decide), fun _ => ?_⟩) (fun q2 => ⟨fun _ => ?_, fun z => absurd rfl z⟩)⟩
  · unfold keyO at h
    rw [if_neg (show ¬ (k = 1 ∧ b - a = 3 ∧ spl T a (wrd 0) 3 0 = true) from q1), if_pos (show k = 1 ∧ b - a = 4 ∧ spl T a (wrd 1) 4 0 = true from q2)] at h
    exact h
  refine ⟨t115, d0, c_spells hS hT hk ha hb hb2 s2 d3 (fun q3 => ⟨fun z => absurd z (by decide), fun _ => ?_⟩) (fun q3 => ⟨fun _ => ?_, fun z => absurd rfl z⟩)⟩
  · unfold keyO at h
    rw [if_neg (show ¬ (k = 1 ∧ b - a = 3 ∧ spl T a (wrd 0) 3 0 = true) from q1), if_neg (show ¬ (k = 1 ∧ b - a = 4 ∧ spl T a (wrd 1) 4 0 = true) from q2), if_pos (show k = 1 ∧ b - a = 4 ∧ spl T a (wrd 2) 4 0 = true from q3)] at h
    exact h
  · unfold keyO at h
    rw [if_neg (show ¬ (k = 1 ∧ b - a = 3 ∧ spl T a (wrd 0) 3 0 = true) from q1), if_neg (show ¬ (k = 1 ∧ b - a = 4 ∧ spl T a (wrd 1) 4 0 = true) from q2), if_neg (show ¬ (k = 1 ∧ b - a = 4 ∧ spl T a (wrd 2) 4 0 = true) from q3)] at h
    exact h
