/-! the reference's parser follows -/
def mE (T : Int → Int) (I0 J : mj_I) (s : tS) (K D : List Int) : Prop := mK I0 J ∧ mT T J s ∧ mS J K D
def NB (T : Int → Int) (l t : Int) (s : tS) : Prop := s.1.1 = 3 → lev (T s.1.2.1) ≤ 4 → lev (T s.1.2.1) < l ∨ (lev (T s.1.2.1) = 2 ∧ t = 1)
theorem mT_3 {T : Int → Int} {J : mj_I} {s : tS} (h : mT T J s) (h3 : s.1.1 = 3) : J 150 11 = 3 ∧ J 150 12 = T s.1.2.1 := by
  obtain ⟨t1, t2, t3, t4, t5, t6, t7⟩ := h.1
  exact ⟨by rw [t3, if_neg (by omega)]; exact h3, t4 (Or.inr h3)⟩
theorem mT_n {T : Int → Int} {J : mj_I} {s : tS} (h : mT T J s) (h3 : s.1.1 ≠ 3) : J 150 11 ≠ 3 := by
  obtain ⟨t1, t2, t3, t4, t5, t6, t7⟩ := h.1
  rw [t3]
  split <;> omega
theorem mT_0 {T : Int → Int} {J : mj_I} {s : tS} (h : mT T J s) : J 150 11 = 0 ↔ s.1.1 = 0 := by
  obtain ⟨t1, t2, t3, t4, t5, t6, t7⟩ := h.1
  rw [t3]
  split <;> omega
theorem m_goE {d : Nat} {I : mj_I} {S : mj_S} {Q : mj_Q} (hS : mk_Sh S) {T : Int → Int} {L : Int} {I0 : mj_I} {s : tS} {K D : List Int} (hT : ∀ j, 0 ≤ j → j < L → rd I0 156 j = T j) (hL : I0 150 8 = L) (hL2 : 0 ≤ L ∧ L ≤ 96) (hw : wfs T L s) (hk : s.1.1 = 1 ∨ s.1.1 = 2 ∨ s.1.1 = 3) (hd : 0 < d) (hE : mE T I0 I s K D)
    (h : ∀ J, mE T I0 J (nxS T L s) K D → rd J 161 = rd I 161 → Q none J S) : mj_C d 236 [.inr 150] I S Q := by
  obtain ⟨hK, ht, n1, n2, n3, n4⟩ := hE
  refine m_goS (s := s) hS hT hL hL2 hK hw hk hd ht.1 (fun J k1 k2 k3 k4 => ?_)
  exact h J ⟨k1, ⟨k2, by rw [k3 19 (by omega)]; exact ht.2⟩, by rw [k3 21 (by omega)]; exact n1, by rw [k4.r (by omega)]; exact n2, by rw [k3 18 (by omega)]; exact n3, by rw [k4.r (by omega)]; exact n4⟩ (k4.r (by omega))
theorem mE_push {T : Int → Int} {I0 J : mj_I} {s : tS} {K D : List Int} (x : Int) (hE : mE T I0 J s K D) (hb : (K.length : Int) < 96) : mE T I0 (mj_up (up J 160 (K.length : Int) x) 150 21 ((K.length : Int) + 1)) s (x :: K) D := by
  obtain ⟨hK, ht, n1, n2, n3, n4⟩ := hE
  refine ⟨⟨(hK.1.up (Or.inr (Or.inr (Or.inl rfl))) _ _).mu (Or.inl rfl) _ _, fun j hj => by simp (disch := omega) only [rd_up, rd_uo, rd_mu, up_f, mu_f, mj_up_s, ru_s, ru_n]; exact hK.2.1 j hj, by simp (disch := omega) only [rd_up, rd_uo, rd_mu, up_f, mu_f, mj_up_s, ru_s, ru_n]; exact hK.2.2⟩, ⟨tokR_cg (fun j ja jb => by simp (disch := omega) only [rd_up, rd_uo, rd_mu, up_f, mu_f, mj_up_s, ru_s, ru_n]) ht.1, by simp (disch := omega) only [rd_up, rd_uo, rd_mu, up_f, mu_f, mj_up_s, ru_s, ru_n]; exact ht.2⟩, by simp (disch := omega) only [rd_up, rd_uo, rd_mu, up_f, mu_f, mj_up_s, ru_s, ru_n]; rfl, ⟨by simp (disch := omega) only [rd_up, rd_uo, rd_mu, up_f, mu_f, mj_up_s, ru_s, ru_n], by simp (disch := omega) only [rd_up, rd_uo, rd_mu, up_f, mu_f, mj_up_s, ru_s, ru_n]; exact stk_up (Int.le_refl _) n2⟩, by simp (disch := omega) only [rd_up, rd_uo, rd_mu, up_f, mu_f, mj_up_s, ru_s, ru_n]; exact n3, by simp (disch := omega) only [rd_up, rd_uo, rd_mu, up_f, mu_f, mj_up_s, ru_s, ru_n]; exact n4⟩
theorem mE_tst {T : Int → Int} {I0 J : mj_I} {s : tS} {K D : List Int} (o x : Int) (hE : mE T I0 J s K D) : mE T I0 (up J 161 o x) s K D := by
  obtain ⟨hK, ht, n1, n2, n3, n4⟩ := hE
  refine ⟨⟨hK.1.up (Or.inr (Or.inr (Or.inr rfl))) _ _, fun j hj => by simp (disch := omega) only [rd_up, rd_uo, rd_mu, up_f, mu_f, mj_up_s, ru_s, ru_n]; exact hK.2.1 j hj, by simp (disch := omega) only [rd_up, rd_uo, rd_mu, up_f, mu_f, mj_up_s, ru_s, ru_n]; exact hK.2.2⟩, ⟨tokR_cg (fun j ja jb => by simp (disch := omega) only [rd_up, rd_uo, rd_mu, up_f, mu_f, mj_up_s, ru_s, ru_n]) ht.1, by simp (disch := omega) only [rd_up, rd_uo, rd_mu, up_f, mu_f, mj_up_s, ru_s, ru_n]; exact ht.2⟩, by simp (disch := omega) only [rd_up, rd_uo, rd_mu, up_f, mu_f, mj_up_s, ru_s, ru_n]; exact n1, by simp (disch := omega) only [rd_up, rd_uo, rd_mu, up_f, mu_f, mj_up_s, ru_s, ru_n]; exact n2, by simp (disch := omega) only [rd_up, rd_uo, rd_mu, up_f, mu_f, mj_up_s, ru_s, ru_n]; exact n3, by simp (disch := omega) only [rd_up, rd_uo, rd_mu, up_f, mu_f, mj_up_s, ru_s, ru_n]; exact n4⟩
theorem mE_pop {T : Int → Int} {I0 J : mj_I} {s : tS} {K D : List Int} {x : Int} (hE : mE T I0 J s (x :: K) D) : mE T I0 (mj_up J 150 21 ((K.length : Int) + 1 - 1)) s K D := by
  obtain ⟨hK, ht, n1, n2, n3, n4⟩ := hE
  refine ⟨⟨hK.1.mu (Or.inl rfl) _ _, fun j hj => by simp (disch := omega) only [rd_up, rd_uo, rd_mu, up_f, mu_f, mj_up_s, ru_s, ru_n]; exact hK.2.1 j hj, by simp (disch := omega) only [rd_up, rd_uo, rd_mu, up_f, mu_f, mj_up_s, ru_s, ru_n]; exact hK.2.2⟩, ⟨tokR_cg (fun j ja jb => by simp (disch := omega) only [rd_up, rd_uo, rd_mu, up_f, mu_f, mj_up_s, ru_s, ru_n]) ht.1, by simp (disch := omega) only [rd_up, rd_uo, rd_mu, up_f, mu_f, mj_up_s, ru_s, ru_n]; exact ht.2⟩, by simp (disch := omega) only [rd_up, rd_uo, rd_mu, up_f, mu_f, mj_up_s, ru_s, ru_n]; omega, by simp (disch := omega) only [rd_up, rd_uo, rd_mu, up_f, mu_f, mj_up_s, ru_s, ru_n]; exact n2.2, by simp (disch := omega) only [rd_up, rd_uo, rd_mu, up_f, mu_f, mj_up_s, ru_s, ru_n]; exact n3, by simp (disch := omega) only [rd_up, rd_uo, rd_mu, up_f, mu_f, mj_up_s, ru_s, ru_n]; exact n4⟩
theorem mE_settle {d : Nat} {S : mj_S} {Q : mj_Q} (hS : mk_Sh S) {T : Int → Int} {I0 I : mj_I} {s : tS} (lt : Int) (hd : 0 < d) (P H D : List Int) (hE : mE T I0 I s (P ++ H) D) (hP : ∀ x, x ∈ P → x ≠ -11 ∧ lt ≤ rk x) (hH : ∀ x H', H = x :: H' → x = -11 ∨ rk x < lt) (hb : ((P ++ H).length : Int) + D.length ≤ 96) (h : ∀ J, mE T I0 J s H (D ++ P) → rd J 161 = rd I 161 → Q none J S) : mj_C d 243 [.inr 150, .inl lt] I S Q := by
  obtain ⟨hK, ht, hM⟩ := hE
  refine m_settleC hS lt hd P H D hK hM hP hH hb (fun J j1 j2 j3 j4 => ?_)
  exact h J ⟨j1, ⟨tokR_cg (fun j ja jb => j3 j (by omega) (by omega)) ht.1, by rw [j3 19 (by omega) (by omega)]; exact ht.2⟩, j2⟩ j4
theorem mapl {key : Int} (c : List Int) : ((c.map (cnv key)).length : Int) = c.length := by rw [List.length_map]
theorem nts_b : ∀ K : List Int, 0 ≤ nts K ∧ nts K ≤ K.length
  | [] => ⟨Int.le_refl _, Int.le_refl _⟩
  | x :: K => by
    have := nts_b K
    have hl : ((x :: K).length : Int) = K.length + 1 := rfl
    unfold nts
    split <;> omega
/-- a word that ends it -/
theorem m_bad {d : Nat} {S : mj_S} {Q : mj_Q} (hS : mk_Sh S) {T : Int → Int} {L key : Int} {I0 J : mj_I} {s : tS} {P H D : List Int} {o m : Int} {x4 : Option xV} (hw : wfs T L s) (hE : mE T I0 J s (P ++ H) D) (hP : ∀ x, x ∈ P → x ≠ -11 ∧ 0 ≤ rk x) (hH : ∀ x H', H = x :: H' → x = -11 ∨ rk x < 0) (hb : ((P ++ H).length : Int) + D.length ≤ 96) (ho : 0 ≤ o ∧ o ≤ 8) (hn : NB T 0 (rd J 161 o) s) (h1 : ¬ (s.1.1 = 3 ∧ T s.1.2.1 = 41 ∧ 0 < o)) (h2 : s.1.1 = 0 → 0 < o) (hd : 1 < d) (h : ∀ J', mK I0 J' → J' 150 10 = s.1.2.1 → Q (some (.inl 0)) J' S) : xW d 240 20 [some (.inr (13, 0, 150, 0)), some (.inl o), some (.inl m), some (.inl 0), x4] [] J S Q := by
  have t0 := mT_0 hE.2.1
  have t10 : J 150 10 = s.1.2.1 := hE.2.1.1.1
  by_cases k3 : s.1.1 = 3
  · have t3 := mT_3 hE.2.1 k3
    have t11 := t3.1
    have t12 := t3.2
    by_cases l4 : lev (T s.1.2.1) ≤ 4
    · have sg := sgV_4 (key := key) l4
      have nb := (hn k3 l4).elim (fun q => by have : 0 ≤ lev (T s.1.2.1) := by unfold lev; repeat' split
                                                                               all_goals omega
                                              omega) (fun q => q)
      have n41 : T s.1.2.1 ≠ 41 := fun q => by rw [q] at l4; exact absurd l4 (by decide)
      refine x_hd false [20] 60 ?_
      (repeat' (first | rw [t11] | rw [t12] | refine m_signHere hS ?_ ?_ | refine m_rank hS _ ?_ | with_reducible assumption | with_reducible exact rfl | with_reducible exact trivial | (with_reducible (show (_ : Int) ≤ _); omega) | (with_reducible (show (_ : Int) < _); omega) | (with_reducible (show (_ : Nat) < _); omega) | (with_reducible (show (_ : Nat) ≤ _); omega) | with_reducible exact Or.inl rfl | with_reducible exact Or.inr rfl | with_reducible exact Or.inl trivial | with_reducible exact Or.inr trivial | (intro hz; exact absurd hz (by decide)) | (intro hz; exfalso; omega) | refine And.intro ?_ ?_ | intro _))
      all_goals first | exact h J hE.1 t10 | exact h J2 j1.1 j1.2.1.1.1
    · have sg := sgV_5 l4
      refine x_hd false [20] 60 ?_
      (repeat' (first | rw [t11] | rw [t12] | rw [sg] | refine m_signHere hS ?_ ?_ | refine m_rank hS _ ?_ | with_reducible assumption | with_reducible exact rfl | with_reducible exact trivial | (with_reducible (show (_ : Int) ≤ _); omega) | (with_reducible (show (_ : Int) < _); omega) | (with_reducible (show (_ : Nat) < _); omega) | (with_reducible (show (_ : Nat) ≤ _); omega) | with_reducible exact Or.inl rfl | with_reducible exact Or.inr rfl | with_reducible exact Or.inl trivial | with_reducible exact Or.inr trivial | (intro hz; exact absurd hz (by decide)) | (intro hz; exfalso; omega) | refine And.intro ?_ ?_ | intro _))
      all_goals first | exact h J hE.1 t10 | exact h J2 j1.1 j1.2.1.1.1
  · have t3 := mT_n hE.2.1 k3
    refine x_hd false [20] 60 ?_
    (repeat' (first | refine m_signHere hS ?_ ?_ | refine m_rank hS _ ?_ | refine mE_settle hS 0 (by omega) P H D hE hP hH hb (fun J2 j1 j2 => ?_) | with_reducible assumption | with_reducible exact rfl | with_reducible exact trivial | (with_reducible (show (_ : Int) ≤ _); omega) | (with_reducible (show (_ : Int) < _); omega) | (with_reducible (show (_ : Nat) < _); omega) | (with_reducible (show (_ : Nat) ≤ _); omega) | with_reducible exact Or.inl rfl | with_reducible exact Or.inr rfl | with_reducible exact Or.inl trivial | with_reducible exact Or.inr trivial | (intro hz; exact absurd hz (by decide)) | (intro hz; exfalso; omega) | refine And.intro ?_ ?_ | intro _))
    all_goals first | exact h J hE.1 t10 | exact h J2 j1.1 j1.2.1.1.1
