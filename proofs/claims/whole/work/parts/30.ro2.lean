/-! calls that only read: told, as, keeps, textTold, why, judge, log -/
theorem RO_2 {L : Nat} {xs : Nat → Int32} {I : mj_I} {S : mj_S} (h : RO L xs I S) : mj_tg S 2 = 40 ∧ mj_ln S 2 = 6 ∧ rd I 2 0 = -1 ∧ rd I 2 1 = 0 ∧ rd I 2 2 = 0 ∧ rd I 2 3 = 1 ∧ rd I 2 4 = 1 ∧ rd I 2 5 = 0 := by
  have e : S.2.1 2 = (40, 6) := (h.2.1.1 2 (by decide)).2
  have e2 : I 2 = mj_I0 xs 2 := h.1 2 (by decide)
  refine ⟨by unfold mj_tg; rw [e], by unfold mj_ln; rw [e], ?_⟩
  rw [rd_in (by decide) (by decide), rd_in (by decide) (by decide), rd_in (by decide) (by decide), rd_in (by decide) (by decide), rd_in (by decide) (by decide), rd_in (by decide) (by decide), e2]
  exact ⟨rfl, rfl, rfl, rfl, rfl, rfl⟩
abbrev unP (k o : Int) : Prop := o = 0 ∨ k = o ∨ (o = 1 ∧ (k = 3 ∨ k = 4))
/-- 60, 229 isUnder -/
theorem c_isUnder {d : Nat} {I : mj_I} {S : mj_S} {Q : mj_Q} {L : Nat} {xs : Nat → Int32} (hS : mk_Sh S) (hO : RO L xs I S) (k o : Int) (hd : 1 < d) (hk : 0 ≤ k ∧ k ≤ 5) (ho : 0 ≤ o ∧ o ≤ 5) (hT : unP k o → Q (some (.inl 1)) I S) (hF : ¬ unP k o → Q (some (.inl 0)) I S) : mj_C d 60 [.inl k, .inl o] I S Q := by
  obtain ⟨h40, h6, k0, k1, k2, k3, k4, k5⟩ := RO_2 hO
  have hkk : k = 0 ∨ k = 1 ∨ k = 2 ∨ k = 3 ∨ k = 4 ∨ k = 5 := by omega
  simp only [unP] at hT hF
  rcases hkk with e | e | e | e | e | e <;> subst e
  all_goals (refine x_C false [.inl _, .inl o] [] 80 hS ⟨trivial, trivial, trivial⟩ ?_)
  all_goals ((repeat' (first | rw [k0] | rw [k1] | rw [k2] | rw [k3] | rw [k4] | rw [k5] | exact Or.inr h40 | refine c_isKind _ ?_ ?_ ?_ | with_reducible assumption | with_reducible exact rfl | with_reducible exact trivial | (with_reducible (show (_ : Int) ≤ _); omega) | (with_reducible (show (_ : Int) < _); omega) | (with_reducible (show (_ : Nat) < _); omega) | (with_reducible (show (_ : Nat) ≤ _); omega) | with_reducible exact Or.inl rfl | with_reducible exact Or.inr rfl | with_reducible exact Or.inl trivial | with_reducible exact Or.inr trivial | (intro hz; exact absurd hz (by decide)) | (intro hz; exfalso; omega) | refine And.intro ?_ ?_ | intro _)))
  all_goals first | exact hT (by omega) | exact hF (by omega)
theorem m_isUnder {d : Nat} {I : mj_I} {S : mj_S} {Q : mj_Q} (k o : Int) (hT : unP k o → Q (some (.inl 1)) I S) (hF : ¬ unP k o → Q (some (.inl 0)) I S) : mj_C d 229 [.inl k, .inl o] I S Q := by
  simp only [unP] at hT hF
  refine mj_C_of 30 ?_
  (repeat' (first | assumption | exact Or.inl rfl | exact Or.inr rfl | (intro hz; exact absurd hz (by decide)) | refine And.intro ?_ ?_ | intro _))
  all_goals first | exact hT (by omega) | exact hF (by omega)
theorem m_weightBy {d : Nat} {I : mj_I} {S : mj_S} {Q : mj_Q} (k n : Int) (hk : 0 ≤ k ∧ k ≤ 5) (hn : 0 ≤ n ∧ n ≤ 9) (h : Q (some (.inl (w_wt k n))) I S) : mj_C d 226 [.inl k, .inl n] I S Q := by
  have hnn : 0 ≤ n * n ∧ n * n ≤ 81 := by
    have : n = 0 ∨ n = 1 ∨ n = 2 ∨ n = 3 ∨ n = 4 ∨ n = 5 ∨ n = 6 ∨ n = 7 ∨ n = 8 ∨ n = 9 := by omega
    rcases this with q | q | q | q | q | q | q | q | q | q <;> subst q <;> decide
  refine mj_C_of 30 ?_
  (repeat' (first | assumption | exact Or.inl rfl | exact Or.inr rfl | (intro hz; exact absurd hz (by decide)) | refine And.intro ?_ ?_ | intro _))
  all_goals (refine Qe h ?_; unfold w_wt; simp_all; try (unfold mj_wr; omega))
theorem c_wt {d : Nat} {I : mj_I} {S : mj_S} {Q : mj_Q} (k n : Int) (hk : 0 ≤ k ∧ k ≤ 5) (hn : 0 ≤ n ∧ n ≤ 9) (h : Q (some (.inl (w_wt k n))) I S) : mj_C d 50 [.inl k, .inl n] I S Q := c_weightOf k n hk hn (fun r e => by rw [e]; exact h)
theorem sgn_b {N : Int → Int} (hN : Inv N) (s : Int) : -1 ≤ sgn N s ∧ sgn N s < N 2 := by
  have hH := hN.1
  unfold InvH at hH
  unfold sgn
  split
  · rename_i q
    have := hN.2.2.1 s q.1 q.2
    unfold InvS at this
    omega
  · omega
theorem scr14 {I J : mj_I} {b : Nat} (hb : mB b) (h : fr (fun a => a = b + 14) I J) : fr scr I J := h.mo (fun a q => by unfold mB at hb; unfold scr; omega)
theorem scr155 {I J : mj_I} (h : fr (fun a => a = 155) I J) : fr scr I J := h.mo (fun a q => by unfold scr; omega)
theorem bc_scr {b : Nat} (hb : mB b) {a : Nat} (h : bc b a) : ¬ scr a := by unfold mB at hb; unfold bc at h; unfold scr; omega
