/-! rules kept, in the class -/
theorem ok_rP {S : mj_S} (hS : mk_Sh S) {b : Nat} (hb : mB b) : xok S (54, b, b + 1, 7) := (x_F2 hS (xok_b hS hb) (show x_fld 2 b b 0 = some (54, b, b + 1, 7) from rfl)).2
theorem tg_Ru {S : mj_S} (hS : mk_Sh S) {b : Nat} (hb : mB b) {p : Int} (h0 : 0 ≤ p) (h1 : p < 12) : mj_tg S (b + 28 + p.toNat) = 5 := by
  rcases xok_Ru hS hb h0 h1 with h | h
  · exact absurd (show (6 : Nat) = 0 from h) (by decide)
  · have : mj_tg S (b + 28 + p.toNat) + 1 = 6 := h.1
    omega
/-- 58 suits -/
theorem c_suits {d : Nat} {I : mj_I} {S : mj_S} {Q : mj_Q} (hS : mk_Sh S) {b : Nat} (hb : mB b) {N : Int → Int} (hN : Inv N) (hC : Cb I S b N) (r a c : Int) (hr : 0 ≤ r ∧ r < N 4) (h5 : N (88 + 4 * r + 0) ≠ 5) (ha : 0 ≤ a ∧ a < N 2) (hc : 0 ≤ c ∧ c < N 2)
    (hT : N (88 + 4 * r + 0) = 0 ∨ okP N (N (88 + 4 * r + 0)) (N (88 + 4 * r + 3)) a c → Q (some (.inl 1)) I S) (hF : ¬ (N (88 + 4 * r + 0) = 0 ∨ okP N (N (88 + 4 * r + 0)) (N (88 + 4 * r + 3)) a c) → Q (some (.inl 0)) I S) : mj_C d 58 [.inr (b + 28 + r.toNat), .inr (b + 1), .inl a, .inl c] I S Q := by
  have hH := hN.1
  have hR := hN.2.2.2.1 r hr.1 hr.2
  have hCR := hC.2.2.2.1 r hr.1 hr.2
  have hPa := (hN.2.1 a ha.1 ha.2).2.1
  have hPc := (hN.2.1 c hc.1 hc.2).2.1
  have hCa := hC.2.1 a ha.1 ha.2
  have hCc := hC.2.1 c hc.1 hc.2
  unfold InvH at hH
  unfold InvR at hR
  unfold CbR at hCR
  have ea1 : I (b + 15 + a.toNat) 1 = N (8 + 8 * a + 1) := hCa.2.1
  have ea2 : I (b + 15 + a.toNat) 2 = N (8 + 8 * a + 2) := hCa.2.2.1
  have ec1 : I (b + 15 + c.toNat) 1 = N (8 + 8 * c + 1) := hCc.2.1
  have ec2 : I (b + 15 + c.toNat) 2 = N (8 + 8 * c + 2) := hCc.2.2.1
  clear hCa hCc
  simp only [okP] at hT hF
  refine x_C false [.inr (6, b, b + 28 + r.toNat, 0), .inr (54, b, b + 1, 7), .inl a, .inl c] [] 60 hS ⟨xok_Ru hS hb (by omega) (by omega), ok_rP hS hb, trivial, trivial, trivial⟩ ?_
  (repeat' (first | with_reducible assumption | with_reducible exact rfl | with_reducible exact trivial | (with_reducible (show (_ : Int) ≤ _); omega) | (with_reducible (show (_ : Int) < _); omega) | (with_reducible (show (_ : Nat) < _); omega) | (with_reducible (show (_ : Nat) ≤ _); omega) | with_reducible exact Or.inl rfl | with_reducible exact Or.inr rfl | with_reducible exact Or.inl trivial | with_reducible exact Or.inr trivial | (intro hz; exact absurd hz (by decide)) | (intro hz; exfalso; omega) | refine And.intro ?_ ?_ | intro _))
  all_goals first | exact hT (by omega) | exact hF (by omega)
theorem c_last {d : Nat} {I : mj_I} {S : mj_S} {Q : mj_Q} (r : Nat) (hr : mj_tg S r = 5) (h : Q (some (.inl (max (I r 1) (I r 2)))) I S) : mj_C d 56 [.inr r] I S Q := c_lastStep r hr (fun v e => by rw [e]; exact h)
theorem c_first {d : Nat} {I : mj_I} {S : mj_S} {Q : mj_Q} (r : Nat) (hr : mj_tg S r = 5) (h : Q (some (.inl (min (I r 1) (I r 2)))) I S) : mj_C d 57 [.inr r] I S Q := c_firstStep r hr (fun v e => by rw [e]; exact h)
/-- 55 isManyKept -/
theorem c_isMany {d : Nat} {I : mj_I} {S : mj_S} {Q : mj_Q} (hS : mk_Sh S) {b : Nat} (hb : mB b) {N : Int → Int} (hN : Inv N) (hC : Cb I S b N) (r : Int) (hd : 0 < d) (hr : 0 ≤ r ∧ r < N 4) (h5 : N (88 + 4 * r + 0) = 5) (hW : ∀ s, 0 ≤ s → s < 6 → -1 ≤ rd I (b + 14) s ∧ rd I (b + 14) s < N 2)
    (hT : keptB N (rd I (b + 14)) r = true → Q (some (.inl 1)) I S) (hF : keptB N (rd I (b + 14)) r = false → Q (some (.inl 0)) I S) : mj_C d 55 [.inr (b + 28 + r.toNat), .inr (b + 14)] I S Q := by
  have hH := hN.1
  have hR := hN.2.2.2.1 r hr.1 hr.2
  have hCR := hC.2.2.2.1 r hr.1 hr.2
  unfold InvH at hH
  unfold InvR at hR
  unfold CbR at hCR
  have htg := tg_Ru hS hb (p := r) (by omega) (by omega)
  generalize hW2 : rd I (b + 14) = W at *
  have hlo : lo1 N r = min (I (b + 28 + r.toNat) 1) (I (b + 28 + r.toNat) 2) := by unfold lo1; rw [hCR.2.1, hCR.2.2.1]
  have hhi : hi1 N r = max (I (b + 28 + r.toNat) 1) (I (b + 28 + r.toNat) 2) := by unfold hi1; rw [hCR.2.1, hCR.2.2.1]
  have hlb : 0 ≤ lo1 N r ∧ lo1 N r ≤ hi1 N r ∧ hi1 N r < N 3 := by unfold lo1 hi1; omega
  rw [keptB_m h5] at hT hF
  generalize hlo1 : lo1 N r = lo at *
  generalize hhi1 : hi1 N r = hi at *
  have e3 : I (b + 28 + r.toNat) 3 = N (88 + 4 * r + 3) := hCR.2.2.2
  have loop1 : ∀ m i : Nat, (i + m : Int) = hi - lo + 1 → ngB W lo i = false → ∀ (x s : Int), x = sb W lo i → s = lo + i →
      xW d 55 8 [some (.inr (6, b, b + 28 + r.toNat, 0)), some (.inr (21, 0, b + 14, 6)), some (.inl x), some (.inl hi), some (.inl s)] [] I S Q := by
    intro m
    induction m with
    | zero =>
      intro i hi2 hn x s h1 h2
      have hx7 : mt7 x := by
        rw [h1]
        refine sb_7 (fun j hj => ?_)
        have q1 := ngB_f hn j hj
        have q2 := hW (lo + j) (by omega) (by omega)
        omega
      have hi3 : (hi - lo + 1).toNat = i := by omega
      rw [hi3, hn, Bool.false_or, decide_eq_true_eq, ← h1] at hT
      rw [hi3, hn, Bool.false_or, decide_eq_false_iff_not, ← h1] at hF
      refine x_hd false [8] 40 ?_
      (repeat' (first | refine c_bits _ hx7 ?_ | with_reducible assumption | with_reducible exact rfl | with_reducible exact trivial | (with_reducible (show (_ : Int) ≤ _); omega) | (with_reducible (show (_ : Int) < _); omega) | (with_reducible (show (_ : Nat) < _); omega) | (with_reducible (show (_ : Nat) ≤ _); omega) | with_reducible exact Or.inl rfl | with_reducible exact Or.inr rfl | with_reducible exact Or.inl trivial | with_reducible exact Or.inr trivial | (intro hz; exact absurd hz (by decide)) | (intro hz; exfalso; omega) | refine And.intro ?_ ?_ | intro _))
      · exact hF (by omega)
      · exact hT (by omega)
    | succ m ih =>
      intro i hi2 hn x s h1 h2
      have q2 := hW s (by omega) (by omega)
      refine x_hd false [8] 40 ?_
      (repeat' (first | rw [hW2] | with_reducible assumption | with_reducible exact rfl | with_reducible exact trivial | (with_reducible (show (_ : Int) ≤ _); omega) | (with_reducible (show (_ : Int) < _); omega) | (with_reducible (show (_ : Nat) < _); omega) | (with_reducible (show (_ : Nat) ≤ _); omega) | with_reducible exact Or.inl rfl | with_reducible exact Or.inr rfl | with_reducible exact Or.inl trivial | with_reducible exact Or.inr trivial | (intro hz; exact absurd hz (by decide)) | (intro hz; exfalso; omega) | refine And.intro ?_ ?_ | intro _))
      · refine ih (i + 1) (by omega) ?_ _ _ ?_ (by omega)
        · unfold ngB
          rw [hn, ← h2, Bool.false_or]
          exact decide_eq_false (by omega)
        · rw [h1, h2]
          rfl
      · refine hT ?_
        rw [ngB_t (i := i) (by omega) (by rw [← h2]; omega)]
        rfl
  refine x_C false [.inr (6, b, b + 28 + r.toNat, 0), .inr (21, 0, b + 14, 6)] [8] 40 hS ⟨xok_Ru hS hb (by omega) (by omega), ok_do hS hb, trivial⟩ ?_
  (repeat' (first | rw [← hhi] | rw [← hlo] | refine c_last _ htg ?_ | refine c_first _ htg ?_ | with_reducible assumption | with_reducible exact rfl | with_reducible exact trivial | (with_reducible (show (_ : Int) ≤ _); omega) | (with_reducible (show (_ : Int) < _); omega) | (with_reducible (show (_ : Nat) < _); omega) | (with_reducible (show (_ : Nat) ≤ _); omega) | with_reducible exact Or.inl rfl | with_reducible exact Or.inr rfl | with_reducible exact Or.inl trivial | with_reducible exact Or.inr trivial | (intro hz; exact absurd hz (by decide)) | (intro hz; exfalso; omega) | refine And.intro ?_ ?_ | intro _))
  exact loop1 (hi - lo + 1).toNat 0 (by omega) rfl _ _ rfl (by omega)
/-- 54 isKept -/
theorem c_isKept {d : Nat} {I : mj_I} {S : mj_S} {Q : mj_Q} (hS : mk_Sh S) {b : Nat} (hb : mB b) {N : Int → Int} (hN : Inv N) (hC : Cb I S b N) (r : Int) (hd : 1 < d) (hr : 0 ≤ r ∧ r < N 4) (hW : ∀ s, 0 ≤ s → s < 6 → -1 ≤ rd I (b + 14) s ∧ rd I (b + 14) s < N 2)
    (hT : keptB N (rd I (b + 14)) r = true → Q (some (.inl 1)) I S) (hF : keptB N (rd I (b + 14)) r = false → Q (some (.inl 0)) I S) : mj_C d 54 [.inr (b + 28 + r.toNat), .inr (b + 1), .inr (b + 14)] I S Q := by
  have hH := hN.1
  have hR := hN.2.2.2.1 r hr.1 hr.2
  have hCR := hC.2.2.2.1 r hr.1 hr.2
  unfold InvH at hH
  unfold InvR at hR
  unfold CbR at hCR
  by_cases h5 : N (88 + 4 * r + 0) = 5
  · refine x_C false [.inr (6, b, b + 28 + r.toNat, 0), .inr (54, b, b + 1, 7), .inr (21, 0, b + 14, 6)] [] 40 hS ⟨xok_Ru hS hb (by omega) (by omega), ok_rP hS hb, ok_do hS hb, trivial⟩ ?_
    (repeat' (first | refine c_isMany hS hb hN hC _ ?_ hr h5 hW ?_ ?_ | with_reducible assumption | with_reducible exact rfl | with_reducible exact trivial | (with_reducible (show (_ : Int) ≤ _); omega) | (with_reducible (show (_ : Int) < _); omega) | (with_reducible (show (_ : Nat) < _); omega) | (with_reducible (show (_ : Nat) ≤ _); omega) | with_reducible exact Or.inl rfl | with_reducible exact Or.inr rfl | with_reducible exact Or.inl trivial | with_reducible exact Or.inr trivial | (intro hz; exact absurd hz (by decide)) | (intro hz; exfalso; omega) | refine And.intro ?_ ?_ | intro _))
    · exact hT (by assumption)
    · exact hF (by assumption)
  · have hW1 := hW (N (88 + 4 * r + 1)) (by omega) (by omega)
    have hW3 := hW (N (88 + 4 * r + 2)) (by omega) (by omega)
    rw [keptB_p (by omega), decide_eq_true_eq] at hT
    rw [keptB_p (by omega), decide_eq_false_iff_not] at hF
    have e1 : I (b + 28 + r.toNat) 1 = N (88 + 4 * r + 1) := hCR.2.1
    have e2 : I (b + 28 + r.toNat) 2 = N (88 + 4 * r + 2) := hCR.2.2.1
    refine x_C false [.inr (6, b, b + 28 + r.toNat, 0), .inr (54, b, b + 1, 7), .inr (21, 0, b + 14, 6)] [] 60 hS ⟨xok_Ru hS hb (by omega) (by omega), ok_rP hS hb, ok_do hS hb, trivial⟩ ?_
    (repeat' (first | rw [e1] | rw [e2] | refine c_suits hS hb hN hC _ _ _ hr h5 ?_ ?_ ?_ ?_ | with_reducible assumption | with_reducible exact rfl | with_reducible exact trivial | (with_reducible (show (_ : Int) ≤ _); omega) | (with_reducible (show (_ : Int) < _); omega) | (with_reducible (show (_ : Nat) < _); omega) | (with_reducible (show (_ : Nat) ≤ _); omega) | with_reducible exact Or.inl rfl | with_reducible exact Or.inr rfl | with_reducible exact Or.inl trivial | with_reducible exact Or.inr trivial | (intro hz; exact absurd hz (by decide)) | (intro hz; exfalso; omega) | refine And.intro ?_ ?_ | intro _))
    all_goals first
      | exact hT (Or.inr (Or.inl (by omega)))
      | exact hT (Or.inr (Or.inr (Or.inl (by omega))))
      | (rename_i z _; exact hT (z.elim Or.inl (fun z => Or.inr (Or.inr (Or.inr z)))))
      | (rename_i z _; exact hF (fun y => by rcases y with y | y | y | y <;> first | omega | exact z (Or.inl y) | exact z (Or.inr y)))
      | (rename_i z; exact hT (z.elim Or.inl (fun z => Or.inr (Or.inr (Or.inr z)))))
      | (rename_i z; exact hF (fun y => by rcases y with y | y | y | y <;> first | omega | exact z (Or.inl y) | exact z (Or.inr y)))
/-- 152 firstBroken -/
theorem c_firstBroken {d : Nat} {I : mj_I} {S : mj_S} {Q : mj_Q} (hS : mk_Sh S) {b : Nat} (hb : mB b) {N : Int → Int} (hN : Inv N) (hC : Cb I S b N) (hd : 2 < d) (hW : ∀ s, 0 ≤ s → s < 6 → -1 ≤ rd I (b + 14) s ∧ rd I (b + 14) s < N 2)
    (h : Q (some (.inl (brkS N (rd I (b + 14))))) I S) : mj_C d 152 [.inr b, .inr (b + 14)] I S Q := by
  have hH := hN.1
  have hCH := hC.1
  unfold InvH at hH
  unfold CbH at hCH
  have loop : ∀ m k : Nat, (k + m : Int) = N 4 → ∀ kk : Int, kk = k → Q (some (.inl (brk N (rd I (b + 14)) m k))) I S → xW d 152 2 [some (.inr (2, b, b, 0)), some (.inr (21, 0, b + 14, 6)), some (.inl kk)] [] I S Q := by
    intro m
    induction m with
    | zero =>
      intro k hk kk h1 h2
      refine x_hd false [2] 30 ?_
      (repeat' (first | with_reducible assumption | with_reducible exact rfl | with_reducible exact trivial | (with_reducible (show (_ : Int) ≤ _); omega) | (with_reducible (show (_ : Int) < _); omega) | (with_reducible (show (_ : Nat) < _); omega) | (with_reducible (show (_ : Nat) ≤ _); omega) | with_reducible exact Or.inl rfl | with_reducible exact Or.inr rfl | with_reducible exact Or.inl trivial | with_reducible exact Or.inr trivial | (intro hz; exact absurd hz (by decide)) | (intro hz; exfalso; omega) | refine And.intro ?_ ?_ | intro _))
      exact h2
    | succ m ih =>
      intro k hk kk h1 h2
      subst h1
      unfold brk at h2
      refine x_hd false [2] 30 ?_
      (repeat' (first | refine c_isKept hS hb hN hC _ ?_ ?_ hW ?_ ?_ | with_reducible assumption | with_reducible exact rfl | with_reducible exact trivial | (with_reducible (show (_ : Int) ≤ _); omega) | (with_reducible (show (_ : Int) < _); omega) | (with_reducible (show (_ : Nat) < _); omega) | (with_reducible (show (_ : Nat) ≤ _); omega) | with_reducible exact Or.inl rfl | with_reducible exact Or.inr rfl | with_reducible exact Or.inl trivial | with_reducible exact Or.inr trivial | (intro hz; exact absurd hz (by decide)) | (intro hz; exfalso; omega) | refine And.intro ?_ ?_ | intro _))
      · rename_i z _
        rw [if_pos z] at h2
        exact ih (k + 1) (by omega) _ (by omega) h2
      · rename_i z _
        rw [if_neg (by rw [z]; decide)] at h2
        exact h2
  refine x_C false [.inr (2, b, b, 0), .inr (21, 0, b + 14, 6)] [2] 40 hS ⟨xok_b hS hb, ok_do hS hb, trivial⟩ ?_
  (repeat' (first | with_reducible assumption | with_reducible exact rfl | with_reducible exact trivial | (with_reducible (show (_ : Int) ≤ _); omega) | (with_reducible (show (_ : Int) < _); omega) | (with_reducible (show (_ : Nat) < _); omega) | (with_reducible (show (_ : Nat) ≤ _); omega) | with_reducible exact Or.inl rfl | with_reducible exact Or.inr rfl | with_reducible exact Or.inl trivial | with_reducible exact Or.inr trivial | (intro hz; exact absurd hz (by decide)) | (intro hz; exfalso; omega) | refine And.intro ?_ ?_ | intro _))
  exact loop (N 4).toNat 0 (by omega) _ rfl h
/-- 271 allKept -/
theorem m_allKept {d : Nat} {I : mj_I} {S : mj_S} {Q : mj_Q} (hS : mk_Sh S) (hN : Inv (rd I 151)) (hd : 2 < d) (hW : ∀ s, 0 ≤ s → s < 6 → -1 ≤ rd I 155 s ∧ rd I 155 s < rd I 151 2)
    (hT : brkS (rd I 151) (rd I 155) < 0 → Q (some (.inl 1)) I S) (hF : ¬ brkS (rd I 151) (rd I 155) < 0 → Q (some (.inl 0)) I S) : mj_C d 271 [.inr 150] I S Q := by
  have hH := hN.1
  unfold InvH at hH
  have loop : ∀ m k : Nat, (k + m : Int) = rd I 151 4 → ∀ kk : Int, kk = k → brkS (rd I 151) (rd I 155) = brk (rd I 151) (rd I 155) m k → xW d 271 2 [some (.inr (13, 0, 150, 0)), some (.inl kk)] [] I S Q := by
    intro m
    induction m with
    | zero =>
      intro k hk kk h1 h2
      refine x_hd false [2] 30 ?_
      (repeat' (first | with_reducible assumption | with_reducible exact rfl | with_reducible exact trivial | (with_reducible (show (_ : Int) ≤ _); omega) | (with_reducible (show (_ : Int) < _); omega) | (with_reducible (show (_ : Nat) < _); omega) | (with_reducible (show (_ : Nat) ≤ _); omega) | with_reducible exact Or.inl rfl | with_reducible exact Or.inr rfl | with_reducible exact Or.inl trivial | with_reducible exact Or.inr trivial | (intro hz; exact absurd hz (by decide)) | (intro hz; exfalso; omega) | refine And.intro ?_ ?_ | intro _))
      exact hT (by rw [h2]; show (-1 : Int) < 0; decide)
    | succ m ih =>
      intro k hk kk h1 h2
      subst h1
      unfold brk at h2
      refine x_hd false [2] 30 ?_
      (repeat' (first | refine m_keptBy hS _ hN ?_ ?_ hW ?_ ?_ | with_reducible assumption | with_reducible exact rfl | with_reducible exact trivial | (with_reducible (show (_ : Int) ≤ _); omega) | (with_reducible (show (_ : Int) < _); omega) | (with_reducible (show (_ : Nat) < _); omega) | (with_reducible (show (_ : Nat) ≤ _); omega) | with_reducible exact Or.inl rfl | with_reducible exact Or.inr rfl | with_reducible exact Or.inl trivial | with_reducible exact Or.inr trivial | (intro hz; exact absurd hz (by decide)) | (intro hz; exfalso; omega) | refine And.intro ?_ ?_ | intro _))
      · rename_i z _
        rw [if_pos z] at h2
        exact ih (k + 1) (by omega) _ (by omega) h2
      · rename_i z _
        rw [if_neg (by rw [z]; decide)] at h2
        exact hF (by omega)
  refine x_C false [.inr (13, 0, 150, 0)] [2] 40 hS ⟨xok_m hS, trivial⟩ ?_
  (repeat' (first | with_reducible assumption | with_reducible exact rfl | with_reducible exact trivial | (with_reducible (show (_ : Int) ≤ _); omega) | (with_reducible (show (_ : Int) < _); omega) | (with_reducible (show (_ : Nat) < _); omega) | (with_reducible (show (_ : Nat) ≤ _); omega) | with_reducible exact Or.inl rfl | with_reducible exact Or.inr rfl | with_reducible exact Or.inl trivial | with_reducible exact Or.inr trivial | (intro hz; exact absurd hz (by decide)) | (intro hz; exfalso; omega) | refine And.intro ?_ ?_ | intro _))
  exact loop (rd I 151 4).toNat 0 (by omega) _ rfl rfl
