/-! takesKey -/
theorem m_takesKey {d : Nat} {I : mj_I} {S : mj_S} {Q : mj_Q} (hS : mk_Sh S) {T : Int → Int} {L k a b : Int} (hT : ∀ j, 0 ≤ j → j < L → rd I 156 j = T j) (hL : I 150 8 = L) (hL2 : 0 ≤ L ∧ L ≤ 96) (hkk : ∀ k, 0 ≤ k → k < 11 → rd I 157 k = mj_nth 0 [109, 97, 121, 99, 111, 115, 116, 119, 97, 105, 116] k.toNat) (hka : rd I 158 0 = 0 ∧ rd I 158 1 = 3 ∧ rd I 158 2 = 7 ∧ rd I 158 3 = 11) (ht : tokR T I k a b) (hb2 : 0 ≤ a ∧ a ≤ b ∧ b ≤ L) (hd : 1 < d)
    (h0 : keyO T k a b < 0 → Q (some (.inl 0)) I S) (h1 : 0 ≤ keyO T k a b → ∀ J, fr (fun a => a = 150) I J → (∀ j, (j < 9 ∨ 14 < j) → J 150 j = I 150 j) → J 150 14 = keyO T k a b → tokR T J (nxK T L k b) (nxA T L b) (nxB T L b) → Q (some (.inl 1)) J S) : mj_C d 239 [.inr 150] I S Q := by
  have ht' := ht
  obtain ⟨t1, t2, t3, t4, t5, t6, t7⟩ := ht'
  have hk01 : k = 1 → I 150 13 = b := fun q => t6 (Or.inl q)
  have fin : ∀ (w v2 v3 v4 : Int), 0 ≤ w → k = 1 → keyO T k a b = w → xW d 239 66 [some (.inr (13, 0, 150, 0)), some (.inl w), some (.inl v2), some (.inl v3), some (.inl v4)] [] I S Q := by
    intro w v2 v3 v4 w0 hk1 hw
    refine x_hd false [] 40 ?_
    (repeat' (first | refine m_go (k := k) (b := b) hS (T := T) (L := L) ?_ ?_ hL2 ?_ ?_ ?_ ?_ ?_ (fun J hJ hj hr => ?_) | with_reducible assumption | with_reducible exact rfl | with_reducible exact trivial | (with_reducible (show (_ : Int) ≤ _); omega) | (with_reducible (show (_ : Int) < _); omega) | (with_reducible (show (_ : Nat) < _); omega) | (with_reducible (show (_ : Nat) ≤ _); omega) | with_reducible exact Or.inl rfl | with_reducible exact Or.inr rfl | with_reducible exact Or.inl trivial | with_reducible exact Or.inr trivial | (intro hz; exact absurd hz (by decide)) | (intro hz; exfalso; omega) | refine And.intro ?_ ?_ | intro _))
    · rename_i j j0 j1
      simp (disch := omega) only [rd_up, rd_uo, rd_mu, up_f, mu_f, mj_up_s, ru_s, ru_n]
      exact hT j j0 j1
    · simp (disch := omega) only [rd_up, rd_uo, rd_mu, up_f, mu_f, mj_up_s, ru_s, ru_n]
      exact hL
    · simp (disch := omega) only [rd_up, rd_uo, rd_mu, up_f, mu_f, mj_up_s, ru_s, ru_n]
      exact t2
    · simp (disch := omega) only [rd_up, rd_uo, rd_mu, up_f, mu_f, mj_up_s, ru_s, ru_n]
      exact hk01 hk1
    · exact h1 (by omega) J (((fr.refl (X := fun a => a = 150)).mu rfl _ _).tr hJ) (fun j q => by rw [hj j (by omega), mu_f (by omega)]) (by rw [hj 14 (by omega), mj_up_s, hw]) hr
  have step : ∀ (w at0 : Int) (n : Nat) (wd : Nat → Int), (0 ≤ w ∧ w < 3) → n ≤ 4 → (0 ≤ at0 ∧ at0 + n ≤ 11) → rd I 158 w = at0 → rd I 158 (w + 1) = at0 + n → (∀ j : Nat, j < n → rd I 157 (at0 + j) = wd j) → k = 1 → (¬ (b - a = n ∧ spl T a wd n 0 = true) → ∀ x2 x3 x4, xW d 239 8 [some (.inr (13, 0, 150, 0)), some (.inl (w + 1)), x2, x3, x4] [] I S Q) → ((b - a = n ∧ spl T a wd n 0 = true) → keyO T k a b = w) → ∀ x2 x3 x4, xW d 239 8 [some (.inr (13, 0, 150, 0)), some (.inl w), x2, x3, x4] [] I S Q := by
    intro w at0 n wd hw hn hat e1 e2 ek hk1 hno hyes x2 x3 x4
    have loop : ∀ (m i : Nat), i + m = n → ∀ sm : Int, (sm = 1 ∧ b - a = n ∧ spl T a wd n 0 = spl T a wd m i ∨ sm = 0 ∧ ¬ (b - a = n ∧ spl T a wd n 0 = true)) → xW d 239 36 [some (.inr (13, 0, 150, 0)), some (.inl w), some (.inl n), some (.inl sm), some (.inl i)] [] I S Q := by
      intro m
      induction m with
      | zero =>
        intro i hi sm hsm
        refine x_hd false [8, 36, 66] 40 ?_
        (repeat' (first | with_reducible assumption | with_reducible exact rfl | with_reducible exact trivial | (with_reducible (show (_ : Int) ≤ _); omega) | (with_reducible (show (_ : Int) < _); omega) | (with_reducible (show (_ : Nat) < _); omega) | (with_reducible (show (_ : Nat) ≤ _); omega) | with_reducible exact Or.inl rfl | with_reducible exact Or.inr rfl | with_reducible exact Or.inl trivial | with_reducible exact Or.inr trivial | (intro hz; exact absurd hz (by decide)) | (intro hz; exfalso; omega) | refine And.intro ?_ ?_ | intro _))
        · rename_i _ z
          exact hno (hsm.elim (fun q => by omega) (fun q => q.2)) _ _ _
        · rename_i _ z
          exact fin w _ _ _ (by omega) hk1 (hyes (hsm.elim (fun q => ⟨q.2.1, by rw [q.2.2]; rfl⟩) (fun q => by omega)))
      | succ m ih =>
        intro i hi sm hsm
        have ei := ek i (by omega)
        have es : spl T a wd (m + 1) i = (decide (T (a + i) = wd i) && spl T a wd m (i + 1)) := rfl
        have jT := hT (a + i)
        refine x_hd false [8, 36, 66] 60 ?_
        (repeat' (first | rw [t1] | rw [e1] | rw [ei] | rw [jT (by omega) (by omega)] | with_reducible assumption | with_reducible exact rfl | with_reducible exact trivial | (with_reducible (show (_ : Int) ≤ _); omega) | (with_reducible (show (_ : Int) < _); omega) | (with_reducible (show (_ : Nat) < _); omega) | (with_reducible (show (_ : Nat) ≤ _); omega) | with_reducible exact Or.inl rfl | with_reducible exact Or.inr rfl | with_reducible exact Or.inl trivial | with_reducible exact Or.inr trivial | (intro hz; exact absurd hz (by decide)) | (intro hz; exfalso; omega) | refine And.intro ?_ ?_ | intro _))
        · exact hno (hsm.elim (fun q => by omega) (fun q => q.2)) _ _ _
        · rename_i z1 z2 z3
          have hq := hsm.elim (fun q => q) (fun q => absurd q.1 z2)
          have k1 := ih (i + 1) (by omega) 0 (Or.inr ⟨rfl, fun q => by rw [hq.2.2, es, decide_eq_false z3, Bool.false_and] at q; exact absurd q.2 (by decide)⟩)
          rw [show ((i + 1 : Nat) : Int) = (i : Int) + 1 by omega] at k1
          exact k1
        · rename_i z1 z2 z3
          have hq := hsm.elim (fun q => q) (fun q => absurd q.1 z2)
          have k1 := ih (i + 1) (by omega) 1 (Or.inl ⟨rfl, hq.2.1, by rw [hq.2.2, es, decide_eq_true z3, Bool.true_and]⟩)
          rw [show ((i + 1 : Nat) : Int) = (i : Int) + 1 by omega] at k1
          exact k1
    refine x_hd false [36] 60 ?_
    (repeat' (first | rw [t1] | rw [t2] | rw [e1] | rw [e2] | with_reducible assumption | with_reducible exact rfl | with_reducible exact trivial | (with_reducible (show (_ : Int) ≤ _); omega) | (with_reducible (show (_ : Int) < _); omega) | (with_reducible (show (_ : Nat) < _); omega) | (with_reducible (show (_ : Nat) ≤ _); omega) | with_reducible exact Or.inl rfl | with_reducible exact Or.inr rfl | with_reducible exact Or.inl trivial | with_reducible exact Or.inr trivial | (intro hz; exact absurd hz (by decide)) | (intro hz; exfalso; omega) | refine And.intro ?_ ?_ | intro _))
    · rename_i z1 z2
      rw [show at0 + (n : Int) - at0 = n by omega]
      exact loop n 0 (by omega) 0 (Or.inr ⟨rfl, by omega⟩)
    · rename_i z1 z2
      rw [show at0 + (n : Int) - at0 = n by omega]
      exact loop n 0 (by omega) 1 (Or.inl ⟨rfl, by omega, rfl⟩)
  have hk1' : ¬ k = 1 → keyO T k a b = -1 := fun q => by
    unfold keyO
    rw [if_neg (fun z => q z.1), if_neg (fun z => q z.1), if_neg (fun z => q z.1)]
  have kb : ∀ w, w < 3 → ∀ j, j < mj_sln.getD w 0 → mj_nth 0 [109, 97, 121, 99, 111, 115, 116, 119, 97, 105, 116] (mj_nth 0 [0, 3, 7] w + j) = wrd w j := by decide +kernel
  have kw : ∀ (w n : Nat) (at0 : Int), w < 3 → n = mj_sln.getD w 0 → at0 = (mj_nth 0 [0, 3, 7] w : Nat) → at0 + n ≤ 11 → ∀ j : Nat, j < n → rd I 157 (at0 + j) = wrd w j := by
    intro w n at0 hw en ea hle j hj
    rw [hkk _ (by omega) (by omega), ← kb w hw j (by omega)]
    congr 1
    omega
  refine x_C false [.inr (13, 0, 150, 0)] [8] 30 hS ⟨xok_m hS, trivial⟩ ?_
  (repeat' (first | rw [t3] | with_reducible assumption | with_reducible exact rfl | with_reducible exact trivial | (with_reducible (show (_ : Int) ≤ _); omega) | (with_reducible (show (_ : Int) < _); omega) | (with_reducible (show (_ : Nat) < _); omega) | (with_reducible (show (_ : Nat) ≤ _); omega) | with_reducible exact Or.inl rfl | with_reducible exact Or.inr rfl | with_reducible exact Or.inl trivial | with_reducible exact Or.inr trivial | (intro hz; exact absurd hz (by decide)) | (intro hz; exfalso; omega) | refine And.intro ?_ ?_ | intro _))
  · rename_i z
    have hk1 : k = 1 := by split at z <;> omega
    refine step 0 0 3 (wrd 0) (by omega) (by omega) (by omega) hka.1 (by rw [show (0 : Int) + 1 = 1 by omega, hka.2.1]; rfl) (kw 0 3 0 (by decide) (by decide) (by decide) (by decide)) hk1 (fun n1 => ?_) (fun y1 => ?_) _ _ _
    · refine step 1 3 4 (wrd 1) (by omega) (by omega) (by omega) hka.2.1 (by rw [show (1 : Int) + 1 = 2 by omega, hka.2.2.1]; rfl) (kw 1 4 3 (by decide) (by decide) (by decide) (by decide)) hk1 (fun n2 => ?_) (fun y2 => ?_)
      · refine step 2 7 4 (wrd 2) (by omega) (by omega) (by omega) hka.2.2.1 (by rw [show (2 : Int) + 1 = 3 by omega, hka.2.2.2]; rfl) (kw 2 4 7 (by decide) (by decide) (by decide) (by decide)) hk1 (fun n3 => ?_) (fun y3 => ?_)
        · intro x2 x3 x4
          refine x_hd false [] 20 ?_
          (repeat' (first | with_reducible assumption | with_reducible exact rfl | with_reducible exact trivial | (with_reducible (show (_ : Int) ≤ _); omega) | (with_reducible (show (_ : Int) < _); omega) | (with_reducible (show (_ : Nat) < _); omega) | (with_reducible (show (_ : Nat) ≤ _); omega) | with_reducible exact Or.inl rfl | with_reducible exact Or.inr rfl | with_reducible exact Or.inl trivial | with_reducible exact Or.inr trivial | (intro hz; exact absurd hz (by decide)) | (intro hz; exfalso; omega) | refine And.intro ?_ ?_ | intro _))
          refine h0 ?_
          unfold keyO
          rw [if_neg (fun q => n1 q.2), if_neg (fun q => n2 q.2), if_neg (fun q => n3 q.2)]
          omega
        · unfold keyO
          rw [if_neg (fun q => n1 q.2), if_neg (fun q => n2 q.2), if_pos ⟨hk1, y3⟩]
      · unfold keyO
        rw [if_neg (fun q => n1 q.2), if_pos ⟨hk1, y2⟩]
    · unfold keyO
      rw [if_pos ⟨hk1, y1⟩]
  · rename_i z
    refine h0 ?_
    rw [hk1' (fun q => z (by rw [q, if_neg (by omega)]))]
    omega
