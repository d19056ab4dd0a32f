/-! findFault -/
theorem keyO_b {T : Int → Int} {k a b : Int} : -1 ≤ keyO T k a b ∧ keyO T k a b ≤ 2 ∧ (0 ≤ keyO T k a b → k = 1 ∧ 3 ≤ b - a) := by
  unfold keyO
  repeat' split
  all_goals omega
def key1 (T : Int → Int) (L : Int) : Int := keyO T (nxK T L 0 0) (nxA T L 0) (nxB T L 0)
def st1 (T : Int → Int) (L : Int) : tS := ((nxK T L (nxK T L 0 0) (nxB T L 0), nxA T L (nxB T L 0), nxB T L (nxB T L 0)), [], 0)
theorem wf1 {T : Int → Int} {L : Int} (hL : 0 ≤ L) : wfs T L (nxS T L ((0, 0, 0), [], 0)) := (wfs_nx ((0, 0, 0), [], 0) ⟨Int.le_refl _, hL⟩).1
theorem wf2 {T : Int → Int} {L : Int} (hL : 0 ≤ L) (hk : 0 ≤ key1 T L) : wfs T L (st1 T L) ∧ 3 ≤ (st1 T L).1.2.1 := by
  have h1 := wf1 (T := T) hL
  have hb := (keyO_b (T := T) (k := nxK T L 0 0) (a := nxA T L 0) (b := nxB T L 0)).2.2 hk
  have h2 := wfs_nx (T := T) (L := L) (nxS T L ((0, 0, 0), [], 0)) ⟨by have := h1.1; omega, h1.1.2.2⟩
  have h3 : 0 ≤ nxA T L 0 := h1.1.1
  have h4 : nxB T L 0 ≤ (st1 T L).1.2.1 := h2.2
  exact ⟨h2.1, by omega⟩
/-- 70 findFault -/
theorem c_findFault {d : Nat} {I : mj_I} {S : mj_S} {Q : mj_Q} (hS : mk_Sh S) {Lx : Nat} {xs : Nat → Int32} {T : Int → Int} {L : Int} (hO1 : ∀ a, a < 20 → I a = mj_I0 xs a) (hO2 : ∀ a, a < 20 → S.1 a = (mj_S0 Lx).1 a ∧ S.2.1 a = (mj_S0 Lx).2.1 a) (hL2 : 0 ≤ L ∧ L ≤ 96) (hTb : ∀ j, 0 ≤ j → j < L → 0 ≤ T j ∧ T j ≤ 255) (hT : rd I 116 = T) (hL : I 115 1 = L) (hd : 100 < d)
    (h0 : key1 T L < 0 → ∀ J, fr (fun a => a = 115 ∨ a = 117) I J → J 115 1 = L → Q (some (.inl (nxA T L 0))) J S)
    (h1 : 0 ≤ key1 T L → ∀ r s' J, PZ T L (key1 T L) 1960 0 0 0 (st1 T L) r s' → fr (fun a => a = 115 ∨ a = 117) I J → J 115 1 = L → J 115 5 = key1 T L → cpS J s' → Q (some (.inl (if r = true ∧ s'.1.1 = 0 then -1 else s'.1.2.1))) J S) : mj_C d 70 [.inr 115] I S Q := by
  have hk := keyO_b (T := T) (k := nxK T L 0 0) (a := nxA T L 0) (b := nxB T L 0)
  have w1 := wf1 (T := T) hL2.1
  have w1' := w1.1
  have b1 : 0 ≤ nxA T L 0 ∧ nxA T L 0 ≤ nxB T L 0 ∧ nxB T L 0 ≤ L := w1.1
  generalize hI1 : mj_up (mj_up (mj_up (mj_up I 115 2 0) 115 4 0) 115 6 0) 115 8 0 = I1
  have f1 : fr (fun a => a = 115 ∨ a = 117) I I1 := by rw [← hI1]; exact (((fr.refl.mu (Or.inl rfl) _ _).mu (Or.inl rfl) _ _).mu (Or.inl rfl) _ _).mu (Or.inl rfl) _ _
  have i1 : I1 115 1 = L := by rw [← hI1]; simp (disch := omega) only [rd_up, rd_uo, rd_mu, up_f, mu_f, mj_up_s, ru_s, ru_n]; exact hL
  have i2 : I1 115 2 = 0 := by rw [← hI1]; simp (disch := omega) only [rd_up, rd_uo, rd_mu, up_f, mu_f, mj_up_s, ru_s, ru_n]
  have i4 : I1 115 4 = 0 := by rw [← hI1]; simp (disch := omega) only [rd_up, rd_uo, rd_mu, up_f, mu_f, mj_up_s, ru_s, ru_n]
  have i6 : I1 115 6 = 0 := by rw [← hI1]; simp (disch := omega) only [rd_up, rd_uo, rd_mu, up_f, mu_f, mj_up_s, ru_s, ru_n]
  have i8 : I1 115 8 = 0 := by rw [← hI1]; simp (disch := omega) only [rd_up, rd_uo, rd_mu, up_f, mu_f, mj_up_s, ru_s, ru_n]
  have iT : rd I1 116 = T := by rw [f1.r (by omega)]; exact hT
  have go : ∀ J, fr (fun a => a = 115) I1 J → (∀ j, j ≠ 2 → j ≠ 3 → j ≠ 4 → J 115 j = I1 115 j) → J 115 2 = nxK T L 0 0 → J 115 3 = nxA T L 0 → J 115 4 = nxB T L 0 → ((∀ a, a < 20 → J a = mj_I0 xs a) ∧ rd J 116 = T) ∧ (0 ≤ key1 T L → cK T L (key1 T L) I (mj_up J 115 5 (key1 T L)) ∧ cpS (mj_up J 115 5 (key1 T L)) (nxS T L ((0, 0, 0), [], 0))) ∧ fr (fun a => a = 115 ∨ a = 117) I J ∧ J 115 1 = L := by
    intro J hJ j0 j2 j3 j4
    have f2 : fr (fun a => a = 115 ∨ a = 117) I J := f1.tr (hJ.mo (fun a q => Or.inl q))
    have jL : J 115 1 = L := by rw [j0 1 (by decide) (by decide) (by decide)]; exact i1
    have jT : rd J 116 = T := by rw [hJ.r (by omega)]; exact iT
    refine ⟨⟨fun a ha => by rw [f2 a (by omega)]; exact hO1 a ha, jT⟩, fun _ => ⟨⟨f2.mu (Or.inl rfl) _ _, by simp (disch := omega) only [rd_up, rd_uo, rd_mu, up_f, mu_f, mj_up_s, ru_s, ru_n]; exact jL, by simp (disch := omega) only [rd_up, rd_uo, rd_mu, up_f, mu_f, mj_up_s, ru_s, ru_n], by simp (disch := omega) only [rd_up, rd_uo, rd_mu, up_f, mu_f, mj_up_s, ru_s, ru_n]; exact jT⟩, by simp (disch := omega) only [rd_up, rd_uo, rd_mu, up_f, mu_f, mj_up_s, ru_s, ru_n]; exact j2, by simp (disch := omega) only [rd_up, rd_uo, rd_mu, up_f, mu_f, mj_up_s, ru_s, ru_n]; exact j3, by simp (disch := omega) only [rd_up, rd_uo, rd_mu, up_f, mu_f, mj_up_s, ru_s, ru_n]; exact j4, ?_, ?_, fun k hk => absurd hk (Nat.not_lt_zero _)⟩, f2, jL⟩
    · simp (disch := omega) only [rd_up, rd_uo, rd_mu, up_f, mu_f, mj_up_s, ru_s, ru_n]
      rw [j0 6 (by decide) (by decide) (by decide)]; exact i6
    · simp (disch := omega) only [rd_up, rd_uo, rd_mu, up_f, mu_f, mj_up_s, ru_s, ru_n]
      rw [j0 8 (by decide) (by decide) (by decide)]; exact i8
  have w2 := wf2 (T := T) (L := L) hL2.1
  refine x_C false [.inr (9, 0, 115, 0)] [] 60 hS ⟨xok_rea hS, trivial⟩ ?_
  (repeat' (first | rw [hI1] | rw [mj_up_s] | rw [q2.1] | rw [q2.2.1] | rw [mu_f (by omega)] | refine c_next hS iT i1 hL2 i2 i4 (by omega) (by omega) (fun J j1 j2 j3 j4 j5 => ?_) | refine c_keyHere hS (go J j1 j2 j3 j4 j5).1.1 hO2 (go J j1 j2 j3 j4 j5).1.2 j3 j4 j5 (by omega) (by omega) ?_ | refine c_nextS hS hL2 ((go J j1 j2 j3 j4 j5).2.1 (by assumption)).1 ((go J j1 j2 j3 j4 j5).2.1 (by assumption)).2 ⟨by show 0 ≤ nxB T L 0; omega, b1.2.2⟩ (by omega) (fun J2 k1 k2 => ?_) | refine (c_PZ hS hO1 hO2 ⟨(by assumption : 0 ≤ key1 T L), hk.2.1⟩ hL2 hTb 1960).2.1 _ _ _ _ _ _ (st1 T L) (by omega) ⟨k1, k2, (w2 (by assumption)).1, (by omega), (by omega), (by have := (w2 (by assumption)).2; show (0 : Int) ≤ _; omega), (by have := (w2 (by assumption)).2; show (0 : Int) ≤ 0 ∧ 0 ≤ _; omega), (by have := (w2 (by assumption)).2; omega)⟩ (by omega) (fun s' J3 p q1 q2 => ?_) (fun s' J3 p q1 q2 => ?_) | with_reducible assumption | with_reducible exact rfl | with_reducible exact trivial | (with_reducible (show (_ : Int) ≤ _); omega) | (with_reducible (show (_ : Int) < _); omega) | (with_reducible (show (_ : Nat) < _); omega) | (with_reducible (show (_ : Nat) ≤ _); omega) | with_reducible exact Or.inl rfl | with_reducible exact Or.inr rfl | with_reducible exact Or.inl trivial | with_reducible exact Or.inr trivial | (intro hz; exact absurd hz (by decide)) | (intro hz; exfalso; omega) | refine And.intro ?_ ?_ | intro _))
  · rename_i z1 z2 z3
    have e := h1 z1 true s' J3 p q1.1 q1.2.1 q1.2.2.1 q2
    rw [if_neg (fun q => z3 q.2), ← q2.2.1] at e
    exact e
  · rename_i z1 z2 z3
    have e := h1 z1 true s' J3 p q1.1 q1.2.1 q1.2.2.1 q2
    rw [if_pos ⟨rfl, z3⟩] at e
    exact e
  · rename_i z1 z2
    have e := h1 z1 false s' J3 p q1.1 q1.2.1 q1.2.2.1 q2
    rw [if_neg (fun q => absurd q.1 (by decide)), ← q2.2.1] at e
    exact e
  · rename_i z1
    have g := (go J j1 j2 j3 j4 j5).2.2
    have e := h0 (Int.not_le.1 z1) (mj_up J 115 5 (keyO T (nxK T L 0 0) (nxA T L 0) (nxB T L 0))) (g.1.mu (Or.inl rfl) _ _) (by rw [mu_f (by omega)]; exact g.2)
    have e4 : mj_up J 115 5 (keyO T (nxK T L 0 0) (nxA T L 0) (nxB T L 0)) 115 3 = nxA T L 0 := by rw [mu_f (by omega)]; exact j4
    have e' : Q (some (.inl (mj_up J 115 5 (keyO T (nxK T L 0 0) (nxA T L 0) (nxB T L 0)) 115 3))) (mj_up J 115 5 (keyO T (nxK T L 0 0) (nxA T L 0) (nxB T L 0))) S := by rw [e4]; exact e
    exact e'
