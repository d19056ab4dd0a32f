/-! the reference's parser follows a piece -/
theorem rk_n : rk (-10) = 6 := by decide
theorem r_A {T : Int → Int} {L key : Int} (hkey : 0 ≤ key ∧ key ≤ 2) {I0 : mj_I} {d : Nat} {S : mj_S} (hS : mk_Sh S) {Q : mj_Q} (hkI : I0 150 14 = key) (hT0 : ∀ j, 0 ≤ j → j < L → rd I0 156 j = T j) (hL : I0 150 8 = L) (hL2 : 0 ≤ L ∧ L ≤ 96) (hd : 2 < d) {f : Nat} (ihA : rA T L key I0 d S Q f) (ihB : rB T L key I0 d S Q f) : rA T L key I0 d S Q (f + 1) := by
  intro o m s r s' Nn H J x4 h hw hE hN hH hm ho hb hp hT hF
  have hab := hw.1
  have hlt := hw.2.1
  have hnb := nts_b (Nn ++ H)
  have nx : s.1.1 ≠ 0 → wfs T L (nxS T L s) ∧ s.1.2.1 + 1 ≤ (nxS T L s).1.2.1 := fun q => pz_nx hw q s.2.1 s.2.2
  have l1 : (nxS T L s).2.1 = s.2.1 := rfl
  have l2 : (nxS T L s).2.2 = s.2.2 := rfl
  have m1 := hE.2.2.1
  have hNP : ∀ x, x ∈ Nn → x ≠ -11 ∧ 6 ≤ rk x := fun x q => by rw [hN x q]; exact ⟨by decide, by decide⟩
  have t10 : J 150 10 = s.1.2.1 := hE.2.1.1.1
  have t0 := mT_n (s := s) hE.2.1
  have t3 := mT_3 (s := s) hE.2.1
  have hal : ((Nn ++ H).length : Int) = Nn.length + H.length := by rw [List.length_append]; omega
  /- a word that is no sign, or none of these -/
  have wrd1 : (¬ (s.1.1 = 3 ∧ T s.1.2.1 = 33 ∧ m < 8)) → (¬ (s.1.1 = 3 ∧ T s.1.2.1 = 40 ∧ o < 8)) → (pkO T key s → r = true ∧ s' = nxS T L (pieS s (pkV T key s))) → (¬ pkO T key s → r = false ∧ s' = s) → xW d 240 20 [some (.inr (13, 0, 150, 0)), some (.inl o), some (.inl m), some (.inl 1), x4] [] J S Q := by
    intro n1 n2 y1 y2
    have q1 : ¬ (J 150 11 = 3 ∧ J 150 12 = 33 ∧ m < 8) := fun q => by
      by_cases k : s.1.1 = 3
      · have := (t3 k).2; omega
      · exact t0 k q.1
    have q2 : ¬ (J 150 11 = 3 ∧ J 150 12 = 40 ∧ o < 8) := fun q => by
      by_cases k : s.1.1 = 3
      · have := (t3 k).2; omega
      · exact t0 k q.1
    have tp : ∀ Q' : mj_Q, (pkO T key s → ∀ J', mK I0 J' → mS J' H (s.2.1.map (cnv key) ++ [cnv key (pkV T key s)] ++ Nn) → mT T J' (nxS T L (pieS s (pkV T key s))) → rd J' 161 = rd J 161 → Q' (some (.inl 1)) J' S) → (¬ pkO T key s → Q' (some (.inl 0)) J S) → mj_C (d - 1) 241 [.inr 150] J S Q' := fun Q' a b => by
      refine m_takesPart (s := s) hS hkey hkI hT0 hL hL2 hE.1 hw hE.2.1 Nn H _ hE.2.2 hNP hH ?_ (by omega) (by omega) a b
      rw [mapl]
      omega
    clear t0 t3 n1 n2 hlt ihA ihB nx h
    refine x_hd false [20] 60 ?_
    (repeat' (first | refine tp _ (fun z J' j1 j2 j3 j4 => ?_) (fun z => ?_) | refine m_nots hS j2 (by omega) ?_ | with_reducible assumption | with_reducible exact rfl | with_reducible exact trivial | (with_reducible (show (_ : Int) ≤ _); omega) | (with_reducible (show (_ : Int) < _); omega) | (with_reducible (show (_ : Nat) < _); omega) | (with_reducible (show (_ : Nat) ≤ _); omega) | with_reducible exact Or.inl rfl | with_reducible exact Or.inr rfl | with_reducible exact Or.inl trivial | with_reducible exact Or.inr trivial | (intro hz; exact absurd hz (by decide)) | (intro hz; exfalso; omega) | refine And.intro ?_ ?_ | intro _))
    all_goals first
      | (obtain ⟨hr, hs⟩ := y2 z
         exact hF hr J hE.1 (by rw [hs]; exact t10))
      | (obtain ⟨hr, hs⟩ := y1 z
         have e : (s.2.1 ++ [pkV T key s]).map (cnv key) ++ Nn = s.2.1.map (cnv key) ++ [cnv key (pkV T key s)] ++ Nn := by rw [List.map_append]; rfl
         rw [← e] at j2
         subst hs
         exact hT hr J' _ ⟨j1, j3, j2⟩ (fun j a b => by rw [j4]))
  rcases h with ⟨h0, h4, -⟩ | ⟨h0, -⟩ | ⟨h0, -⟩ | ⟨h5, hk2, (⟨hle, hr, hs⟩ | ⟨hle, hr, hs⟩)⟩ | ⟨h5, hk2, (⟨hc, hr, hs⟩ | ⟨hc, hr, hs⟩)⟩ | ⟨h5, k1, k2, k3, hr, hs⟩ | ⟨h5, hk2, hc, hj⟩ | ⟨h5, hk2, hc, hj⟩ | ⟨h5, hk2, hc1, hc2, hr, hs⟩
  · omega
  · omega
  · omega
  · refine wrd1 (by omega) (by omega) (fun _ => ⟨hr, ?_⟩) (fun q => absurd (Or.inl ⟨hk2, hle⟩) q)
    rw [hs]; unfold pkV; rw [if_pos hk2]
  · exact wrd1 (by omega) (by omega) (fun q => by exfalso; rcases q with q | q <;> omega) (fun _ => ⟨hr, hs⟩)
  · refine wrd1 (by omega) (by omega) (fun _ => ⟨hr, ?_⟩) (fun q => absurd (Or.inr ⟨hk2, hc⟩) q)
    rw [hs]; unfold pkV; rw [if_neg (by omega)]
  · exact wrd1 (by omega) (by omega) (fun q => by exfalso; rcases q with q | q; omega; exact hc q.2) (fun _ => ⟨hr, hs⟩)
  · exact wrd1 (by omega) (by omega) (fun q => by exfalso; rcases q with q | q <;> omega) (fun _ => ⟨hr, hs⟩)
  · have t11 := (t3 hk2).1
    have t12 : J 150 12 = 33 := by rw [(t3 hk2).2]; exact hc.1
    have nx' := nx (by omega)
    have en : nts (-10 :: (Nn ++ H)) = m + 1 := by
      show nts (Nn ++ H) + (if (-10 : Int) = -10 then 1 else 0) = m + 1
      rw [if_pos rfl, hm]
    have hl5 : ((-10 :: (Nn ++ H)).length : Int) = (Nn ++ H).length + 1 := rfl
    have go : ∀ (J2 : mj_I) (x41 : Option xV), mE T I0 J2 (nxS T L s) (-10 :: (Nn ++ H)) (s.2.1.map (cnv key)) → rd J2 161 = rd J 161 → xW d 240 20 [some (.inr (13, 0, 150, 0)), some (.inl o), some (.inl (nts (-10 :: (Nn ++ H)))), some (.inl 1), x41] [] J2 S Q := by
      intro J2 x41 e1 e2
      rw [en]
      have hNN : ∀ x, x ∈ -10 :: Nn → x = -10 := fun x q => by
        rcases List.mem_cons.1 q with q | q
        · exact q
        · exact hN x q
      rcases hj with ⟨hA, hr⟩ | ⟨s1, hA, hr, hs⟩
      · subst hr
        exact ihA o (m + 1) (nxS T L s) false s' (-10 :: Nn) H J2 x41 hA nx'.1 e1 hNN hH en ho (by rw [l1]; show ((-10 :: (Nn ++ H)).length : Int) + _ + 1 ≤ _; omega) (by rw [l2]; omega) (fun q => absurd q (by decide)) hF
      · subst hr hs
        refine ihA o (m + 1) (nxS T L s) true s1 (-10 :: Nn) H J2 x41 hA nx'.1 e1 hNN hH en ho (by rw [l1]; show ((-10 :: (Nn ++ H)).length : Int) + _ + 1 ≤ _; omega) (by rw [l2]; omega) (fun _ J' x4' g1 g2 => ?_) (fun q => absurd q (by decide))
        have e : s1.2.1.map (cnv key) ++ (-10 :: Nn) = (s1.2.1 ++ [-33]).map (cnv key) ++ Nn := by
          rw [List.map_append, List.append_assoc]
          show _ = _ ++ ([cnv key (-33)] ++ Nn)
          rw [cnv_not.2]
          rfl
        rw [e] at g1
        exact hT rfl J' x4' g1 (fun j a b => by rw [g2 j a b, e2])
    clear hj hT hF ihA ihB wrd1 nx hlt t0 t3
    refine x_hd false [20] 60 ?_
    (repeat' (first | rw [t11] | rw [t12] | rw [m1] | rw [up_f (by omega)] | refine m_goE hS hT0 hL hL2 hw (by omega) (by omega) (mE_push (-10) hE (by omega)) (fun J2 j1 j2 => ?_) | refine m_nots hS j1.2.2 (by omega) ?_ | with_reducible assumption | with_reducible exact rfl | with_reducible exact trivial | (with_reducible (show (_ : Int) ≤ _); omega) | (with_reducible (show (_ : Int) < _); omega) | (with_reducible (show (_ : Nat) < _); omega) | (with_reducible (show (_ : Nat) ≤ _); omega) | with_reducible exact Or.inl rfl | with_reducible exact Or.inr rfl | with_reducible exact Or.inl trivial | with_reducible exact Or.inr trivial | (intro hz; exact absurd hz (by decide)) | (intro hz; exfalso; omega) | refine And.intro ?_ ?_ | intro _))
    exact go J2 _ j1 (by rw [j2]; simp (disch := omega) only [rd_up, rd_uo, rd_mu, up_f, mu_f, mj_up_s, ru_s, ru_n])
  · have t11 := (t3 hk2).1
    have t12 : J 150 12 = 40 := by rw [(t3 hk2).2]; exact hc.1
    have nx' := nx (by omega)
    have en : nts (-11 :: (Nn ++ H)) = m := by
      show nts (Nn ++ H) + (if (-11 : Int) = -10 then 1 else 0) = m
      rw [if_neg (by decide), hm, Int.add_zero]
    have hl5 : ((-11 :: (Nn ++ H)).length : Int) = (Nn ++ H).length + 1 := rfl
    have go : ∀ (J2 : mj_I) (x41 : Option xV), mE T I0 J2 (nxS T L s) (-11 :: (Nn ++ H)) (s.2.1.map (cnv key)) → rd J2 161 = ru (rd J 161) (o + 1) 0 → xW d 240 20 [some (.inr (13, 0, 150, 0)), some (.inl (o + 1)), some (.inl (nts (-11 :: (Nn ++ H)))), some (.inl 1), x41] [] J2 S Q := by
      intro J2 x41 e1 e2
      rw [en]
      have z0 : rd J2 161 (o + 1) = 0 := by rw [e2, ru_s]
      rcases hj with ⟨hA, hr⟩ | ⟨s1, hA, hB⟩
      · subst hr
        exact ihB 0 (o + 1) m (nxS T L s) false s' (-11 :: (Nn ++ H)) J2 x41 (by omega) hA nx'.1 e1 (fun x H' q => by cases q; exact Or.inl rfl) en (by omega) (by rw [l1]; omega) (by rw [l2]; omega) (Or.inl z0) (fun _ => z0) (fun q => absurd q (by decide)) hF
      · have a1 := PZ_ok hkey _ _ _ _ _ _ _ hA nx'.1
        have b1 := a1.2.2 rfl
        have c1 := b1.2.1
        have c2 := b1.2.2.1
        have w1 := a1.1.1
        rw [l1] at c1
        rw [l2] at c2
        refine ihB 0 (o + 1) m (nxS T L s) true s1 (-11 :: (Nn ++ H)) J2 x41 (by omega) hA nx'.1 e1 (fun x H' q => by cases q; exact Or.inl rfl) en (by omega) (by rw [l1]; omega) (by rw [l2]; omega) (Or.inl z0) (fun _ => z0) (fun _ => ?_) (fun q => absurd q (by decide))
        intro J3 P D x43 g1 g2 g3 g4 g5 g6 g7
        have hlen : ((P ++ (-11 :: (Nn ++ H))).length : Int) + D.length = (Nn ++ H).length + 1 + s1.2.1.length := by
          have e := congrArg List.length g2
          rw [List.length_append, List.length_map] at e
          rw [List.length_append]
          have e9 : (-11 :: (Nn ++ H)).length = (Nn ++ H).length + 1 := rfl
          omega
        have hlD : ((D ++ P).length : Int) = s1.2.1.length := by rw [g2, mapl]
        have gP : ∀ x, x ∈ P → x ≠ -11 ∧ 0 ≤ rk x := fun x q => by
          have := rk_b (g3 x q).1
          exact ⟨this.2.2, by omega⟩
        have hH2 : ∀ (lt : Int) x H', -11 :: (Nn ++ H) = x :: H' → x = -11 ∨ rk x < lt := fun lt x H' q => by cases q; exact Or.inl rfl
        rcases hB with ⟨hc2, hr, hs⟩ | ⟨hc2, hr, hs⟩
        · subst hr hs
          have u3 := mT_3 g1.2.1 hc2.1
          have u11 := u3.1
          have u12 : J3 150 12 = 41 := by rw [u3.2]; exact hc2.2
          clear ihA ihB wrd1 nx t0 t3 hF
          have fin : ∀ (J4 J5 J6 : mj_I) (x46 : Option xV), mE T I0 J6 (nxS T L s1) H (D ++ P ++ Nn) → rd J4 161 = rd J3 161 → rd J5 161 = rd (mj_up J4 150 21 (((Nn ++ H).length : Int) + 1 - 1)) 161 → rd J6 161 = rd J5 161 → xW d 240 20 [some (.inr (13, 0, 150, 0)), some (.inl (o + 1 + -1)), some (.inl (nts H)), some (.inl 0), x46] [] J6 S Q := by
            intro J4 J5 J6 x46 i1 i2 i3 i4
            rw [show o + 1 + -1 = o by omega]
            rw [g2] at i1
            refine hT rfl J6 x46 i1 (fun j a b => ?_)
            rw [i4, i3]
            simp (disch := omega) only [rd_up, rd_uo, rd_mu, up_f, mu_f, mj_up_s, ru_s, ru_n]
            rw [i2, g4 j a (by omega), e2, ru_n (by omega)]
          clear hT
          refine x_hd false [20] 80 ?_
          (repeat' (first | rw [u11] | rw [u12] | rw [i3] | refine mE_settle hS 0 (by omega) P (-11 :: (Nn ++ H)) D g1 gP (hH2 0) (by omega) (fun J4 i1 i2 => have i3 : J4 150 21 = ((Nn ++ H).length : Int) + 1 := i1.2.2.1; ?_) | refine mE_settle hS 6 (by omega) Nn H (D ++ P) (mE_pop i1) hNP hH (by omega) (fun J5 i4 i5 => ?_) | refine m_nots hS i4.2.2 (by omega) ?_ | refine m_goE hS hT0 hL hL2 a1.1 (by omega) (by omega) i4 (fun J6 i6 i7 => ?_) | with_reducible assumption | with_reducible exact rfl | with_reducible exact trivial | (with_reducible (show (_ : Int) ≤ _); omega) | (with_reducible (show (_ : Int) < _); omega) | (with_reducible (show (_ : Nat) < _); omega) | (with_reducible (show (_ : Nat) ≤ _); omega) | with_reducible exact Or.inl rfl | with_reducible exact Or.inr rfl | with_reducible exact Or.inl trivial | with_reducible exact Or.inr trivial | (intro hz; exact absurd hz (by decide)) | (intro hz; exfalso; omega) | refine And.intro ?_ ?_ | intro _))
          exact fin J4 J5 J6 _ i6 i2 i5 i7
        · subst hr hs
          exact m_bad (key := key) hS a1.1 g1 gP (hH2 0) (by omega) (by omega) g7 (fun q => hc2 ⟨q.1, q.2.1⟩) (fun _ => by omega) (by omega) (hF rfl)
    clear hj hT hF ihA ihB wrd1 nx hlt t0 t3
    refine x_hd false [20] 60 ?_
    (repeat' (first | rw [t11] | rw [t12] | rw [m1] | rw [up_f (by omega)] | refine m_goE hS hT0 hL hL2 hw (by omega) (by omega) (mE_tst (o + 1) 0 (mE_push (-11) hE (by omega))) (fun J2 j1 j2 => ?_) | refine m_nots hS j1.2.2 (by omega) ?_ | with_reducible assumption | with_reducible exact rfl | with_reducible exact trivial | (with_reducible (show (_ : Int) ≤ _); omega) | (with_reducible (show (_ : Int) < _); omega) | (with_reducible (show (_ : Nat) < _); omega) | (with_reducible (show (_ : Nat) ≤ _); omega) | with_reducible exact Or.inl rfl | with_reducible exact Or.inr rfl | with_reducible exact Or.inl trivial | with_reducible exact Or.inr trivial | (intro hz; exact absurd hz (by decide)) | (intro hz; exfalso; omega) | refine And.intro ?_ ?_ | intro _))
    exact go J2 _ j1 (by rw [j2]; simp (disch := omega) only [rd_up, rd_uo, rd_mu, up_f, mu_f, mj_up_s, ru_s, ru_n])
  · exact wrd1 (by omega) (by omega) (fun q => by exfalso; rcases q with q | q <;> omega) (fun _ => ⟨hr, hs⟩)
