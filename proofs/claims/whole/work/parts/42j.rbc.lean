/-! the reference's parser follows a run -/
def rA (T : Int → Int) (L key : Int) (I0 : mj_I) (d : Nat) (S : mj_S) (Q : mj_Q) (f : Nat) : Prop := ∀ (o m : Int) (s : tS) (r : Bool) (s' : tS) (Nn H : List Int) (J : mj_I) (x4 : Option xV), PZ T L key f 5 o m s r s' → wfs T L s → mE T I0 J s (Nn ++ H) (s.2.1.map (cnv key)) → (∀ x, x ∈ Nn → x = -10) → (∀ x H', H = x :: H' → x = -11 ∨ rk x < 6) → nts (Nn ++ H) = m → (0 ≤ o ∧ o ≤ 8) → ((Nn ++ H).length : Int) + s.2.1.length + 1 ≤ s.1.2.1 → (0 ≤ s.2.2 ∧ s.2.2 ≤ s.1.2.1) → (r = true → ∀ J' x4', mE T I0 J' s' H (s'.2.1.map (cnv key) ++ Nn) → (∀ j, 0 ≤ j → j ≤ o → rd J' 161 j = rd J 161 j) → xW d 240 20 [some (.inr (13, 0, 150, 0)), some (.inl o), some (.inl (nts H)), some (.inl 0), x4'] [] J' S Q) → (r = false → ∀ J', mK I0 J' → J' 150 10 = s'.1.2.1 → Q (some (.inl 0)) J' S) → xW d 240 20 [some (.inr (13, 0, 150, 0)), some (.inl o), some (.inl m), some (.inl 1), x4] [] J S Q
/-- behind a good part of level l -/
def pB (T : Int → Int) (key : Int) (I0 : mj_I) (d : Nat) (S : mj_S) (Q : mj_Q) (l o m : Int) (s' : tS) (H : List Int) (J : mj_I) : Prop := ∀ (J' : mj_I) (P D : List Int) (x4 : Option xV), mE T I0 J' s' (P ++ H) D → D ++ P = s'.2.1.map (cnv key) → (∀ x, x ∈ P → (-9 ≤ x ∧ x < 0) ∧ l + 1 ≤ rk x) → (∀ j, 0 ≤ j → j < o → rd J' 161 j = rd J 161 j) → (3 ≤ l → rd J' 161 o = rd J 161 o) → (rd J' 161 o = 0 ∨ rd J' 161 o = 1) → NB T l (rd J' 161 o) s' → xW d 240 20 [some (.inr (13, 0, 150, 0)), some (.inl o), some (.inl m), some (.inl 0), x4] [] J' S Q
def rB (T : Int → Int) (L key : Int) (I0 : mj_I) (d : Nat) (S : mj_S) (Q : mj_Q) (f : Nat) : Prop := ∀ (l o m : Int) (s : tS) (r : Bool) (s' : tS) (H : List Int) (J : mj_I) (x4 : Option xV), (0 ≤ l ∧ l ≤ 5) → PZ T L key f l o m s r s' → wfs T L s → mE T I0 J s H (s.2.1.map (cnv key)) → (∀ x H', H = x :: H' → x = -11 ∨ rk x ≤ l) → nts H = m → (0 ≤ o ∧ o ≤ 8) → (H.length : Int) + s.2.1.length + 1 ≤ s.1.2.1 → (0 ≤ s.2.2 ∧ s.2.2 ≤ s.1.2.1) → (rd J 161 o = 0 ∨ rd J 161 o = 1) → (l ≤ 2 → rd J 161 o = 0) → (r = true → pB T key I0 d S Q l o m s' H J) → (r = false → ∀ J', mK I0 J' → J' 150 10 = s'.1.2.1 → Q (some (.inl 0)) J' S) → xW d 240 20 [some (.inr (13, 0, 150, 0)), some (.inl o), some (.inl m), some (.inl 1), x4] [] J S Q
def rC (T : Int → Int) (L key : Int) (I0 : mj_I) (d : Nat) (S : mj_S) (Q : mj_Q) (f : Nat) : Prop := ∀ (l o m : Int) (s : tS) (r : Bool) (s' : tS) (H : List Int) (J : mj_I) (P D : List Int) (x4 : Option xV), (0 ≤ l ∧ l ≤ 4) → PZ T L key f (l + 10) o m s r s' → wfs T L s → mE T I0 J s (P ++ H) D → D ++ P = s.2.1.map (cnv key) → (∀ x, x ∈ P → (-9 ≤ x ∧ x < 0) ∧ l + 1 ≤ rk x) → (∀ x H', H = x :: H' → x = -11 ∨ rk x ≤ l) → nts H = m → (0 ≤ o ∧ o ≤ 8) → (H.length : Int) + s.2.1.length + 1 ≤ s.1.2.1 → (0 ≤ s.2.2 ∧ s.2.2 ≤ s.1.2.1) → (rd J 161 o = 0 ∨ rd J 161 o = 1) → (l = 2 → rd J 161 o = 0) → NB T (l + 1) (rd J 161 o) s → (r = true → pB T key I0 d S Q l o m s' H J) → (r = false → ∀ J', mK I0 J' → J' 150 10 = s'.1.2.1 → Q (some (.inl 0)) J' S) → xW d 240 20 [some (.inr (13, 0, 150, 0)), some (.inl o), some (.inl m), some (.inl 0), x4] [] J S Q
theorem r_B {T : Int → Int} {L key : Int} (hkey : 0 ≤ key ∧ key ≤ 2) {I0 : mj_I} {d : Nat} {S : mj_S} {Q : mj_Q} {f : Nat} (ihA : rA T L key I0 d S Q (f + 1)) (ihB : rB T L key I0 d S Q f) (ihC : rC T L key I0 d S Q f) : rB T L key I0 d S Q (f + 1) := by
  intro l o m s r s' H J x4 hl h hw hE hH hm ho hb hp ht ht2 hT hF
  by_cases e5 : l = 5
  · subst e5
    refine ihA o m s r s' [] H J x4 h hw hE (fun x q => absurd q List.not_mem_nil) (fun x H' q => (hH x H' q).elim Or.inl (fun z => Or.inr (by omega))) hm ho hb hp (fun hr J' x4' j1 j2 => ?_) hF
    rw [List.append_nil] at j1
    have k := hT hr J' [] (s'.2.1.map (cnv key)) x4' j1 (List.append_nil _) (fun x q => absurd q List.not_mem_nil) (fun j a b => j2 j a (by omega)) (fun _ => j2 o (by omega) (by omega)) (by rw [j2 o (by omega) (by omega)]; exact ht) (fun q1 q2 => by omega)
    rw [hm]
    exact k
  · have h45 : 0 ≤ l ∧ l ≤ 4 := by omega
    have h' : 0 ≤ l ∧ l ≤ 4 ∧ (PZ T L key f (l + 1) o m s false s' ∧ r = false ∨ ∃ s1, PZ T L key f (l + 1) o m s true s1 ∧ PZ T L key f (l + 10) o m s1 r s') := by
      rcases h with q | q | q | q | q | q | q | q | q
      · exact q
      all_goals (exfalso; have := q.1; omega)
    obtain ⟨-, -, (⟨hA, hr⟩ | ⟨s1, hA, hB⟩)⟩ := h'
    · subst hr
      exact ihB (l + 1) o m s false s' H J x4 (by omega) hA hw hE (fun x H' q => (hH x H' q).elim Or.inl (fun z => Or.inr (by omega))) hm ho hb hp ht (fun q => ht2 (by omega)) (fun q => absurd q (by decide)) hF
    · have a1 := PZ_ok hkey _ _ _ _ _ _ _ hA hw
      have b1 := a1.2.2 rfl
      have c1 := b1.2.1
      have c2 := b1.2.2.1
      refine ihB (l + 1) o m s true s1 H J x4 (by omega) hA hw hE (fun x H' q => (hH x H' q).elim Or.inl (fun z => Or.inr (by omega))) hm ho hb hp ht (fun q => ht2 (by omega)) (fun _ => ?_) (fun q => absurd q (by decide))
      intro J1 P D x41 e1 e2 e3 e4 e5 e6 e7
      refine ihC l o m s1 r s' H J1 P D x41 h45 hB a1.1 e1 e2 (fun x q => ⟨(e3 x q).1, by have := (e3 x q).2; omega⟩) hH hm ho (by omega) (by omega) e6 (fun q => by rw [e5 (by omega)]; exact ht2 (by omega)) e7 (fun hr => ?_) hF
      intro J2 P2 D2 x42 g1 g2 g3 g4 g5 g6 g7
      exact hT hr J2 P2 D2 x42 g1 g2 g3 (fun j a b => by rw [g4 j a b]; exact e4 j a b) (fun q => by rw [g5 q]; exact e5 (by omega)) g6 g7
theorem rk_b {x : Int} (h : -9 ≤ x ∧ x < 0) : 1 ≤ rk x ∧ rk x ≤ 5 ∧ x ≠ -11 := by
  unfold rk
  repeat' split
  all_goals omega
theorem lev_b (c : Int) : 0 ≤ lev c ∧ lev c ≤ 5 := by
  unfold lev
  repeat' split
  all_goals omega
theorem nts_a : ∀ (P H : List Int), (∀ x, x ∈ P → x ≠ -10) → nts (P ++ H) = nts H
  | [], _, _ => rfl
  | x :: P, H, h => by
    show nts (P ++ H) + (if x = -10 then 1 else 0) = nts H
    rw [nts_a P H (fun y q => h y (List.mem_cons_of_mem _ q)), if_neg (h x List.mem_cons_self), Int.add_zero]
theorem r_C {T : Int → Int} {L key : Int} (hkey : 0 ≤ key ∧ key ≤ 2) {I0 : mj_I} {d : Nat} {S : mj_S} (hS : mk_Sh S) {Q : mj_Q} (hT0 : ∀ j, 0 ≤ j → j < L → rd I0 156 j = T j) (hL : I0 150 8 = L) (hL2 : 0 ≤ L ∧ L ≤ 96) (hd : 2 < d) {f : Nat} (ihB : rB T L key I0 d S Q f) (ihC : rC T L key I0 d S Q f) : rC T L key I0 d S Q (f + 1) := by
  intro l o m s r s' H J P D x4 hl h hw hE hDP hP hH hm ho hb hp ht ht2 hN hT hF
  have h' : (¬ (s.1.1 = 3 ∧ lev (T s.1.2.1) = l) ∧ r = true ∧ s' = s) ∨ ((s.1.1 = 3 ∧ lev (T s.1.2.1) = l) ∧ (PZ T L key f (l + 1) o m (nxS T L s) false s' ∧ r = false ∨ ∃ s1, PZ T L key f (l + 1) o m (nxS T L s) true s1 ∧ ((l = 2 ∧ r = true ∧ s' = putS s1 (-(T s.1.2.1))) ∨ (l ≠ 2 ∧ PZ T L key f (l + 10) o m (putS s1 (-(T s.1.2.1))) r s')))) := by
    have e1 : l + 10 - 10 = l := by omega
    have e2 : l + 10 - 9 = l + 1 := by omega
    rcases h with q | q | q | q | q | q | q | q | q
    · exfalso; have := q.1; have := q.2.1; omega
    · rw [e1] at q; exact Or.inl q.2.2
    · rw [e1, e2] at q
      obtain ⟨-, -, q1, q2⟩ := q
      refine Or.inr ⟨q1, ?_⟩
      rcases q2 with q2 | ⟨s1, q3, q4 | q4⟩
      · exact Or.inl q2
      · exact Or.inr ⟨s1, q3, Or.inl ⟨by omega, q4.2⟩⟩
      · exact Or.inr ⟨s1, q3, Or.inr ⟨by omega, q4.2⟩⟩
    all_goals (exfalso; have := q.1; omega)
  rcases h' with ⟨hn, hr, hs⟩ | ⟨hy, hj⟩
  · subst hr hs
    refine hT rfl J P D x4 hE hDP hP (fun _ _ _ => rfl) (fun _ => rfl) ht (fun q1 q2 => ?_)
    have := hN q1 q2
    omega
  · have t3 := mT_3 hE.2.1 hy.1
    have t11 := t3.1
    have t12 := t3.2
    have hlev := lev_b (T s.1.2.1)
    have l4 : lev (T s.1.2.1) ≤ 4 := by omega
    have sg := sgV_4 (key := key) l4
    have n41 : T s.1.2.1 ≠ 41 := fun q => by rw [q] at l4; exact absurd l4 (by decide)
    have hab := hw.1
    have hlt := hw.2.1 (by omega)
    have nx : _ ∧ s.1.2.1 + 1 ≤ (nxS T L s).1.2.1 := pz_nx hw (by omega) s.2.1 s.2.2
    have l1 : (nxS T L s).2.1 = s.2.1 := rfl
    have l2 : (nxS T L s).2.2 = s.2.2 := rfl
    generalize hsg : sgV (T s.1.2.1) = sgn at *
    have hrk : rk sgn = l + 1 := by omega
    have hlen : ((P ++ H).length : Int) + D.length = H.length + s.2.1.length := by
      have e := congrArg List.length hDP
      rw [List.length_append, List.length_map] at e
      rw [List.length_append]
      omega
    have HH : ∀ x H', sgn :: H = x :: H' → x = -11 ∨ rk x ≤ l + 1 := fun x H' q => by
      cases q
      exact Or.inr (by omega)
    have hm2 : nts (sgn :: H) = m := by
      show nts H + (if sgn = -10 then 1 else 0) = m
      rw [if_neg (by omega)]
      omega
    /- behind the sign -/
    have go : ∀ (J2 : mj_I) (x41 : Option xV), mE T I0 J2 (nxS T L s) (sgn :: H) (s.2.1.map (cnv key)) → (∀ j, 0 ≤ j → j < o → rd J2 161 j = rd J 161 j) → rd J2 161 o = (if l = 2 then 1 else if 2 < l then rd J 161 o else 0) → xW d 240 20 [some (.inr (13, 0, 150, 0)), some (.inl o), some (.inl m), some (.inl 1), x41] [] J2 S Q := by
      intro J2 x41 e1 e2 e3
      have t01 : rd J2 161 o = 0 ∨ rd J2 161 o = 1 := by rw [e3]; repeat' split
                                                         all_goals omega
      have hl3 : ((sgn :: H).length : Int) = H.length + 1 := rfl
      have t02 : l + 1 ≤ 2 → rd J2 161 o = 0 := fun q => by rw [e3, if_neg (by omega), if_neg (by omega)]
      rcases hj with ⟨hA, hr⟩ | ⟨s1, hA, hB⟩
      · subst hr
        exact ihB (l + 1) o m (nxS T L s) false s' (sgn :: H) J2 x41 (by omega) hA nx.1 e1 HH hm2 ho (by rw [l1]; omega) (by rw [l2]; omega) t01 t02 (fun q => absurd q (by decide)) hF
      · have a1 := PZ_ok hkey _ _ _ _ _ _ _ hA nx.1
        have b1 := a1.2.2 rfl
        have c1 := b1.2.1
        have c2 := b1.2.2.1
        rw [l1] at c1
        rw [l2] at c2
        refine ihB (l + 1) o m (nxS T L s) true s1 (sgn :: H) J2 x41 (by omega) hA nx.1 e1 HH hm2 ho (by rw [l1]; omega) (by rw [l2]; omega) t01 t02 (fun _ => ?_) (fun q => absurd q (by decide))
        intro J3 P3 D3 x43 g1 g2 g3 g4 g5 g6 g7
        have k1 : mE T I0 J3 (putS s1 (-(T s.1.2.1))) ((P3 ++ [sgn]) ++ H) D3 := by rw [List.append_assoc]; exact g1
        have k2 : D3 ++ (P3 ++ [sgn]) = (putS s1 (-(T s.1.2.1))).2.1.map (cnv key) := by
          rw [← List.append_assoc, g2]
          show _ = (s1.2.1 ++ [-(T s.1.2.1)]).map (cnv key)
          rw [List.map_append, sg.1]
          rfl
        have k3 : ∀ x, x ∈ P3 ++ [sgn] → (-9 ≤ x ∧ x < 0) ∧ l + 1 ≤ rk x := fun x q => by
          rcases List.mem_append.1 q with q | q
          · have := g3 x q
            exact ⟨this.1, by omega⟩
          · have e : x = sgn := List.mem_singleton.1 q
            subst e
            exact ⟨by omega, by omega⟩
        have k4 : ∀ j, 0 ≤ j → j < o → rd J3 161 j = rd J 161 j := fun j a b => by rw [g4 j a b]; exact e2 j a b
        have k5 : 3 ≤ l → rd J3 161 o = rd J 161 o := fun q => by rw [g5 (by omega), e3, if_neg (by omega), if_pos (by omega)]
        rcases hB with ⟨h12, hr, hs⟩ | ⟨h12, hB⟩
        · subst hr hs
          refine hT rfl J3 _ D3 x43 k1 k2 k3 k4 k5 g6 (fun q1 q2 => ?_)
          have e8 : rd J3 161 o = 1 := by rw [g5 (by omega), e3, if_pos h12]
          have := g7 q1 q2
          show lev (T s1.1.2.1) < l ∨ (lev (T s1.1.2.1) = 2 ∧ rd J3 161 o = 1)
          omega
        · have hl5 : ((putS s1 (-(T s.1.2.1))).2.1.length : Int) = s1.2.1.length + 1 := len_sn
          refine ihC l o m (putS s1 (-(T s.1.2.1))) r s' H J3 _ D3 x43 hl hB a1.1 k1 k2 k3 hH hm ho (by rw [hl5]; show _ ≤ s1.1.2.1; omega) (by show 0 ≤ s1.2.2 ∧ s1.2.2 ≤ s1.1.2.1; omega) g6 (fun q => absurd q h12) g7 (fun hr => ?_) hF
          intro J4 P4 D4 x44 i1 i2 i3 i4 i5 i6 i7
          exact hT hr J4 P4 D4 x44 i1 i2 i3 (fun j a b => by rw [i4 j a b]; exact k4 j a b) (fun q => by rw [i5 q]; exact k5 q) i6 i7
    clear hj hT hF ihB ihC
    have hE2 : ∀ x : Int, mE T I0 (up J 161 o x) s (P ++ H) D := fun x => mE_tst o x hE
    have fin : ∀ (x : Int) (J2 J4 : mj_I) (x41 : Option xV), rd J2 161 = rd (up J 161 o x) 161 → rd J4 161 = rd (mj_up (up J2 160 (H.length : Int) sgn) 150 21 ((H.length : Int) + 1)) 161 → mE T I0 J4 (nxS T L s) (sgn :: H) (D ++ P) → x = (if l = 2 then 1 else if 2 < l then rd J 161 o else 0) → xW d 240 20 [some (.inr (13, 0, 150, 0)), some (.inl o), some (.inl m), some (.inl 1), x41] [] J4 S Q := by
      intro x J2 J4 x41 j2 j4 j3 hx
      have er : rd J4 161 = ru (rd J 161) o x := by
        rw [j4]
        simp (disch := omega) only [rd_up, rd_uo, rd_mu, up_f, mu_f, mj_up_s, ru_s, ru_n]
        rw [j2, rd_up (by omega) (by omega)]
      rw [hDP] at j3
      refine go J4 x41 j3 (fun j a b => by rw [er, ru_n (by omega)]) (by rw [er, ru_s]; exact hx)
    refine x_hd false [20] 90 ?_
    (repeat' (first | rw [t11] | rw [t12] | rw [hsg] | rw [hrk] | refine m_signHere hS ?_ ?_ | refine m_rank hS _ ?_ | refine mE_settle hS (l + 1) (by omega) P H D (hE2 _) (fun x q => ⟨(rk_b (hP x q).1).2.2, (hP x q).2⟩) (fun x H' q => (hH x H' q).elim Or.inl (fun z => Or.inr (by omega))) (by omega) (fun J2 j1 j2 => ?_) | rw [j1.2.2.1] | rw [up_f (by omega)] | refine m_goE hS hT0 hL hL2 hw (by omega) (by omega) (mE_push sgn j1 (by omega)) (fun J4 j3 j4 => ?_) | with_reducible assumption | with_reducible exact rfl | with_reducible exact trivial | (with_reducible (show (_ : Int) ≤ _); omega) | (with_reducible (show (_ : Int) < _); omega) | (with_reducible (show (_ : Nat) < _); omega) | (with_reducible (show (_ : Nat) ≤ _); omega) | with_reducible exact Or.inl rfl | with_reducible exact Or.inr rfl | with_reducible exact Or.inl trivial | with_reducible exact Or.inr trivial | (intro hz; exact absurd hz (by decide)) | (intro hz; exfalso; omega) | refine And.intro ?_ ?_ | intro _))
    all_goals (refine fin _ J2 J4 _ j2 j4 j3 ?_; (repeat' split) <;> omega)
