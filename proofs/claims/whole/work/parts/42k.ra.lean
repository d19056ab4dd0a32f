/-! the reference's parser follows a piece -/
theorem rk_n : rk (-10) = 6 := by decide
theorem r_A {T : Int → Int} {L key : Int} (hkey : 0 ≤ key ∧ key ≤ 2) {I0 : mj_I} {d : Nat} {S : mj_S} (hS : mk_Sh S) {Q : mj_Q} (hkI : I0 150 14 = key) (hT0 : ∀ j, 0 ≤ j → j < L → rd I0 156 j = T j) (hL : I0 150 8 = L) (hL2 : 0 ≤ L ∧ L ≤ 96) (hd : 2 < d) {f : Nat} (ihA : rA T L key I0 d S Q f) (ihB : rB T L key I0 d S Q f) : rA T L key I0 d S Q (f + 1) := by
  intro o m s r s' Nn H J x4 h hw hE hN hH hm ho hb hp hT hF
  have hab := hw.1
  have hlt := hw.2.1
  have hnb := nts_b (Nn ++ H)
  have nx : s.1.1 ≠ 0 → wfs T L (nxS T L s) ∧ s.1.2.1 + 1 ≤ (nxS T L s).1.2.1 := fun q => pz_nx hw q s.2.1 s.2.2
  have l1 : (nxS T L s).2.1 = s.2.1 := rfl
  have l2 : (nxS T L s).2.2 = s.2.2 := rfl
  have m1 := hE.2.2.1
  have hNP : ∀ x, x ∈ Nn → x ≠ -11 ∧ 6 ≤ rk x := fun x q => by rw [hN x q]; exact ⟨by decide, by decide⟩
  have t10 : J 150 10 = s.1.2.1 := hE.2.1.1.1
  have t0 := mT_n (s := s) hE.2.1
  have t3 := mT_3 (s := s) hE.2.1
  /- a word that is no sign, or none of these -/
  have wrd1 : (¬ (s.1.1 = 3 ∧ T s.1.2.1 = 33 ∧ m < 8)) → (¬ (s.1.1 = 3 ∧ T s.1.2.1 = 40 ∧ o < 8)) → (pkO T key s → r = true ∧ s' = nxS T L (pieS s (pkV T key s))) → (¬ pkO T key s → r = false ∧ s' = s) → xW d 240 20 [some (.inr (13, 0, 150, 0)), some (.inl o), some (.inl m), some (.inl 1), x4] [] J S Q := by
    intro n1 n2 y1 y2
    have q1 : ¬ (J 150 11 = 3 ∧ J 150 12 = 33 ∧ m < 8) := fun q => by
      by_cases k : s.1.1 = 3
      · have := (t3 k).2; omega
      · exact t0 k q.1
    have q2 : ¬ (J 150 11 = 3 ∧ J 150 12 = 40 ∧ o < 8) := fun q => by
      by_cases k : s.1.1 = 3
      · have := (t3 k).2; omega
      · exact t0 k q.1
    have tp : ∀ Q' : mj_Q, (pkO T key s → ∀ J', mK I0 J' → mS J' H (s.2.1.map (cnv key) ++ [cnv key (pkV T key s)] ++ Nn) → mT T J' (nxS T L (pieS s (pkV T key s))) → rd J' 161 = rd J 161 → Q' (some (.inl 1)) J' S) → (¬ pkO T key s → Q' (some (.inl 0)) J S) → mj_C (d - 1) 241 [.inr 150] J S Q' := fun Q' a b => by
      by_cases k0 : s.1.1 = 0
      · refine m_takesPart (s := s) hS hkey hkI hT0 hL hL2 hE.1 hw hE.2.1 Nn H _ hE.2.2 hNP hH ?_ (by omega) (by omega) a b
        rw [mapl]
        sorry
      · have := hlt k0
        refine m_takesPart (s := s) hS hkey hkI hT0 hL hL2 hE.1 hw hE.2.1 Nn H _ hE.2.2 hNP hH ?_ (by omega) (by omega) a b
        rw [mapl]
        omega
    clear t0 t3 n1 n2 hlt ihA ihB nx
    refine x_hd false [20] 60 ?_
    (repeat' (first | refine tp _ ?_ ?_ | refine m_nots hS (by assumption) ?_ ?_ | with_reducible assumption | with_reducible exact rfl | with_reducible exact trivial | (with_reducible (show (_ : Int) ≤ _); omega) | (with_reducible (show (_ : Int) < _); omega) | (with_reducible (show (_ : Nat) < _); omega) | (with_reducible (show (_ : Nat) ≤ _); omega) | with_reducible exact Or.inl rfl | with_reducible exact Or.inr rfl | with_reducible exact Or.inl trivial | with_reducible exact Or.inr trivial | (intro hz; exact absurd hz (by decide)) | (intro hz; exfalso; omega) | refine And.intro ?_ ?_ | intro _))
    all_goals skip
