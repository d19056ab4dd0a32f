/-! the class's parser: its run -/
theorem pzP0 {T : Int → Int} {L key : Int} {f : Nat} {md o m : Int} {s s' : tS} (h : 0 ≤ md ∧ md ≤ 4) (hA : PZ T L key f (md + 1) o m s false s') : PZ T L key (f + 1) md o m s false s' := Or.inl (⟨h.1, h.2, Or.inl ⟨hA, rfl⟩⟩)
theorem pzP1 {T : Int → Int} {L key : Int} {f : Nat} {md o m : Int} {s s1 s' : tS} {r : Bool} (h : 0 ≤ md ∧ md ≤ 4) (hA : PZ T L key f (md + 1) o m s true s1) (hB : PZ T L key f (md + 10) o m s1 r s') : PZ T L key (f + 1) md o m s r s' := Or.inl (⟨h.1, h.2, Or.inr ⟨s1, hA, hB⟩⟩)
theorem pzJe {T : Int → Int} {L key : Int} {f : Nat} {md o m : Int} {s : tS} (h : 10 ≤ md ∧ md ≤ 14) (hn : ¬ (s.1.1 = 3 ∧ lev (T s.1.2.1) = md - 10)) : PZ T L key (f + 1) md o m s true s := Or.inr (Or.inl (⟨h.1, h.2, hn, rfl, rfl⟩))
theorem pzJ0 {T : Int → Int} {L key : Int} {f : Nat} {md o m : Int} {s s' : tS} (h : 10 ≤ md ∧ md ≤ 14) (hy : s.1.1 = 3 ∧ lev (T s.1.2.1) = md - 10) (hA : PZ T L key f (md - 9) o m (nxS T L s) false s') : PZ T L key (f + 1) md o m s false s' := Or.inr (Or.inr (Or.inl (⟨h.1, h.2, hy, Or.inl ⟨hA, rfl⟩⟩)))
theorem pzJ2 {T : Int → Int} {L key : Int} {f : Nat} {md o m : Int} {s s1 : tS} (h : md = 12) (hy : s.1.1 = 3 ∧ lev (T s.1.2.1) = md - 10) (hA : PZ T L key f (md - 9) o m (nxS T L s) true s1) : PZ T L key (f + 1) md o m s true (putS s1 (-(T s.1.2.1))) := Or.inr (Or.inr (Or.inl (⟨by omega, by omega, hy, Or.inr ⟨s1, hA, Or.inl ⟨h, rfl, rfl⟩⟩⟩)))
theorem pzJ1 {T : Int → Int} {L key : Int} {f : Nat} {md o m : Int} {s s1 s' : tS} {r : Bool} (h : 10 ≤ md ∧ md ≤ 14) (h2 : md ≠ 12) (hy : s.1.1 = 3 ∧ lev (T s.1.2.1) = md - 10) (hA : PZ T L key f (md - 9) o m (nxS T L s) true s1) (hB : PZ T L key f md o m (putS s1 (-(T s.1.2.1))) r s') : PZ T L key (f + 1) md o m s r s' := Or.inr (Or.inr (Or.inl (⟨h.1, h.2, hy, Or.inr ⟨s1, hA, Or.inr ⟨h2, hB⟩⟩⟩)))
theorem pzN1 {T : Int → Int} {L key : Int} {f : Nat} {o m : Int} {s : tS} (hk : s.1.1 = 2) (h : s.1.2.2 - s.1.2.1 ≤ 4) : PZ T L key (f + 1) 5 o m s true (nxS T L (pieS s (nuV T s.1.2.1 (s.1.2.2 - s.1.2.1).toNat))) := Or.inr (Or.inr (Or.inr (Or.inl (⟨rfl, hk, Or.inl ⟨h, rfl, rfl⟩⟩))))
theorem pzN0 {T : Int → Int} {L key : Int} {f : Nat} {o m : Int} {s : tS} (hk : s.1.1 = 2) (h : ¬ s.1.2.2 - s.1.2.1 ≤ 4) : PZ T L key (f + 1) 5 o m s false s := Or.inr (Or.inr (Or.inr (Or.inl (⟨rfl, hk, Or.inr ⟨h, rfl, rfl⟩⟩))))
theorem pzM1 {T : Int → Int} {L key : Int} {f : Nat} {o m : Int} {s : tS} (hk : s.1.1 = 1) (h : s.1.2.2 - s.1.2.1 = 1 ∧ nmI key (T s.1.2.1) ≠ 0) : PZ T L key (f + 1) 5 o m s true (nxS T L (pieS s (nmI key (T s.1.2.1)))) := Or.inr (Or.inr (Or.inr (Or.inr (Or.inl (⟨rfl, hk, Or.inl ⟨h, rfl, rfl⟩⟩)))))
theorem pzM0 {T : Int → Int} {L key : Int} {f : Nat} {o m : Int} {s : tS} (hk : s.1.1 = 1) (h : ¬ (s.1.2.2 - s.1.2.1 = 1 ∧ nmI key (T s.1.2.1) ≠ 0)) : PZ T L key (f + 1) 5 o m s false s := Or.inr (Or.inr (Or.inr (Or.inr (Or.inl (⟨rfl, hk, Or.inr ⟨h, rfl, rfl⟩⟩)))))
theorem pzX {T : Int → Int} {L key : Int} {f : Nat} {o m : Int} {s : tS} (h1 : s.1.1 ≠ 1) (h2 : s.1.1 ≠ 2) (h3 : s.1.1 ≠ 3) : PZ T L key (f + 1) 5 o m s false s := Or.inr (Or.inr (Or.inr (Or.inr (Or.inr (Or.inl (⟨rfl, h1, h2, h3, rfl, rfl⟩))))))
theorem pzB0 {T : Int → Int} {L key : Int} {f : Nat} {o m : Int} {s s' : tS} (hk : s.1.1 = 3) (h : T s.1.2.1 = 33 ∧ m < 8) (hA : PZ T L key f 5 o (m + 1) (nxS T L s) false s') : PZ T L key (f + 1) 5 o m s false s' := Or.inr (Or.inr (Or.inr (Or.inr (Or.inr (Or.inr (Or.inl (⟨rfl, hk, h, Or.inl ⟨hA, rfl⟩⟩)))))))
theorem pzB1 {T : Int → Int} {L key : Int} {f : Nat} {o m : Int} {s s1 : tS} (hk : s.1.1 = 3) (h : T s.1.2.1 = 33 ∧ m < 8) (hA : PZ T L key f 5 o (m + 1) (nxS T L s) true s1) : PZ T L key (f + 1) 5 o m s true (putS s1 (-33)) := Or.inr (Or.inr (Or.inr (Or.inr (Or.inr (Or.inr (Or.inl (⟨rfl, hk, h, Or.inr ⟨s1, hA, rfl, rfl⟩⟩)))))))
theorem pzO0 {T : Int → Int} {L key : Int} {f : Nat} {o m : Int} {s s' : tS} (hk : s.1.1 = 3) (h : T s.1.2.1 = 40 ∧ o < 8) (hA : PZ T L key f 0 (o + 1) m (nxS T L s) false s') : PZ T L key (f + 1) 5 o m s false s' := Or.inr (Or.inr (Or.inr (Or.inr (Or.inr (Or.inr (Or.inr (Or.inl (⟨rfl, hk, h, Or.inl ⟨hA, rfl⟩⟩))))))))
theorem pzO1 {T : Int → Int} {L key : Int} {f : Nat} {o m : Int} {s s1 : tS} (hk : s.1.1 = 3) (h : T s.1.2.1 = 40 ∧ o < 8) (hA : PZ T L key f 0 (o + 1) m (nxS T L s) true s1) (h2 : s1.1.1 = 3 ∧ T s1.1.2.1 = 41) : PZ T L key (f + 1) 5 o m s true (nxS T L s1) := Or.inr (Or.inr (Or.inr (Or.inr (Or.inr (Or.inr (Or.inr (Or.inl (⟨rfl, hk, h, Or.inr ⟨s1, hA, Or.inl ⟨h2, rfl, rfl⟩⟩⟩))))))))
theorem pzO2 {T : Int → Int} {L key : Int} {f : Nat} {o m : Int} {s s1 : tS} (hk : s.1.1 = 3) (h : T s.1.2.1 = 40 ∧ o < 8) (hA : PZ T L key f 0 (o + 1) m (nxS T L s) true s1) (h2 : ¬ (s1.1.1 = 3 ∧ T s1.1.2.1 = 41)) : PZ T L key (f + 1) 5 o m s false s1 := Or.inr (Or.inr (Or.inr (Or.inr (Or.inr (Or.inr (Or.inr (Or.inl (⟨rfl, hk, h, Or.inr ⟨s1, hA, Or.inr ⟨h2, rfl, rfl⟩⟩⟩))))))))
theorem pzZ {T : Int → Int} {L key : Int} {f : Nat} {o m : Int} {s : tS} (hk : s.1.1 = 3) (h1 : ¬ (T s.1.2.1 = 33 ∧ m < 8)) (h2 : ¬ (T s.1.2.1 = 40 ∧ o < 8)) : PZ T L key (f + 1) 5 o m s false s := Or.inr (Or.inr (Or.inr (Or.inr (Or.inr (Or.inr (Or.inr (Or.inr (⟨rfl, hk, h1, h2, rfl, rfl⟩))))))))
def cP (T : Int → Int) (L key : Int) (I0 : mj_I) (f : Nat) (md o m : Int) (s : tS) (I : mj_I) : Prop := cK T L key I0 I ∧ cpS I s ∧ wfs T L s ∧ (0 ≤ o ∧ o ≤ 8) ∧ (0 ≤ m ∧ m ≤ 8) ∧ (s.2.1.length : Int) ≤ s.1.2.1 ∧ (0 ≤ s.2.2 ∧ s.2.2 ≤ s.1.2.1) ∧ 20 * (96 - s.1.2.1) + 20 - md ≤ (f : Int)
def stA (T : Int → Int) (L key : Int) (I0 : mj_I) (S : mj_S) (f : Nat) : Prop := ∀ (d : Nat) (Q : mj_Q) (I : mj_I) (o m : Int) (s : tS), cP T L key I0 f 5 o m s I → 7 * (8 - o) + (8 - m) + 10 ≤ (d : Int) → (∀ s' J, PZ T L key f 5 o m s true s' → cK T L key I0 J → cpS J s' → Q (some (.inl 1)) J S) → (∀ s' J, PZ T L key f 5 o m s false s' → cK T L key I0 J → cpS J s' → Q (some (.inl 0)) J S) → mj_C d 87 [.inr 115, .inl o, .inl m] I S Q
def stB (T : Int → Int) (L key : Int) (I0 : mj_I) (S : mj_S) (f : Nat) : Prop := ∀ (d : Nat) (Q : mj_Q) (I : mj_I) (md o m : Int) (s : tS), (0 ≤ md ∧ md ≤ 5) → cP T L key I0 f md o m s I → 7 * (8 - o) + (8 - m) + 16 - md ≤ (d : Int) → (∀ s' J, PZ T L key f md o m s true s' → cK T L key I0 J → cpS J s' → Q (some (.inl 1)) J S) → (∀ s' J, PZ T L key f md o m s false s' → cK T L key I0 J → cpS J s' → Q (some (.inl 0)) J S) → mj_C d 86 [.inr 115, .inl md, .inl o, .inl m] I S Q
def stC (T : Int → Int) (L key : Int) (I0 : mj_I) (S : mj_S) (f : Nat) : Prop := ∀ (d : Nat) (Q : mj_Q) (I : mj_I) (md o m : Int) (s : tS) (jn : Int) (x6 : Option xV), (0 ≤ md ∧ md ≤ 4) → cP T L key I0 f (md + 10) o m s I → 7 * (8 - o) + (8 - m) + 16 - md ≤ (d : Int) → (0 ≤ jn ∧ jn ≤ s.1.2.1) → (md = 2 → jn = 0) → (∀ s' J, PZ T L key f (md + 10) o m s true s' → cK T L key I0 J → cpS J s' → Q (some (.inl 1)) J S) → (∀ s' J, PZ T L key f (md + 10) o m s false s' → cK T L key I0 J → cpS J s' → Q (some (.inl 0)) J S) → xW d 86 27 [some (.inr (9, 0, 115, 0)), some (.inl md), some (.inl o), some (.inl m), some (.inl (if md = 2 then 1 else 96)), some (.inl jn), x6] [] I S Q
theorem c_A {S : mj_S} (hS : mk_Sh S) {Lx : Nat} {xs : Nat → Int32} {T : Int → Int} {L key : Int} {I0 : mj_I} (hO1 : ∀ a, a < 20 → I0 a = mj_I0 xs a) (hO2 : ∀ a, a < 20 → S.1 a = (mj_S0 Lx).1 a ∧ S.2.1 a = (mj_S0 Lx).2.1 a) (hkey : 0 ≤ key ∧ key ≤ 2) (hL2 : 0 ≤ L ∧ L ≤ 96) (hTb : ∀ j, 0 ≤ j → j < L → 0 ≤ T j ∧ T j ≤ 255) {f : Nat} (ihA : stA T L key I0 S f) (ihB : stB T L key I0 S f) : stA T L key I0 S (f + 1) := by
  intro d Q I o m s hP hd h1 h0
  obtain ⟨hK, hs, hw, ho, hm, hc, hp, hf⟩ := hP
  have hab := hw.1
  have hlt := hw.2.1
  have nx : s.1.1 ≠ 0 → wfs T L (nxS T L s) ∧ s.1.2.1 + 1 ≤ (nxS T L s).1.2.1 := fun q => pz_nx hw q s.2.1 s.2.2
  have eK := hK.2.2.2
  have e2 := hs.1
  have e3 := hs.2.1
  have l1 : ((nxS T L s).2.1.length : Int) = s.2.1.length := rfl
  have l2 : (nxS T L s).2.2 = s.2.2 := rfl
  refine x_C false [.inr (9, 0, 115, 0), .inl o, .inl m] [] 60 hS ⟨xok_rea hS, trivial, trivial, trivial⟩ ?_
  (repeat' (first | rw [e2] | rw [e3] | rw [eK] | rw [q2.1] | rw [q2.2.1] | rw [q1.2.2.2] | refine c_number hS hL2 hK hs hw (by assumption) (by omega) (by omega) (by omega) ?_ ?_ | refine c_name hS hO1 hO2 hkey hL2 hTb hK hs hw (by assumption) (by omega) (by omega) (by omega) ?_ ?_ | refine c_nextS hS hL2 hK hs (by omega) (by omega) (fun J j1 j2 => ?_) | refine c_nextS hS hL2 q1 q2 (by omega) (by omega) (fun J3 j3 j4 => ?_) | refine c_putS hS _ q1 q2 (by have := (nx (by omega)).2; omega) (fun J3 j3 j4 => ?_) | refine ihA _ _ _ _ _ _ ⟨j1, j2, (nx (by omega)).1, (by omega), (by omega), (by have := (nx (by omega)).2; omega), (by have := (nx (by omega)).2; omega), (by have := (nx (by omega)).2; omega)⟩ (by omega) (fun s1 J1 p1 q1 q2 => have hz := PZ_ok hkey _ _ _ _ _ _ _ p1 (nx (by omega)).1; have hz1 := hz.1.1; have hz2 := hz.1.2.1; have hz3 := (hz.2.2 rfl).2.1; have hz5 := (hz.2.2 rfl).2.2.1; have hz4 := (hz.2.2 rfl).1 (by omega); ?_) (fun s1 J1 p1 q1 q2 => ?_) | refine ihB _ _ _ _ _ _ _ (by omega) ⟨j1, j2, (nx (by omega)).1, (by omega), (by omega), (by have := (nx (by omega)).2; omega), (by have := (nx (by omega)).2; omega), (by have := (nx (by omega)).2; omega)⟩ (by omega) (fun s1 J1 p1 q1 q2 => have hz := PZ_ok hkey _ _ _ _ _ _ _ p1 (nx (by omega)).1; have hz1 := hz.1.1; have hz2 := hz.1.2.1; have hz3 := (hz.2.2 rfl).2.1; have hz5 := (hz.2.2 rfl).2.2.1; have hz4 := (hz.2.2 rfl).1 (by omega); ?_) (fun s1 J1 p1 q1 q2 => ?_) | with_reducible assumption | with_reducible exact rfl | with_reducible exact trivial | (with_reducible (show (_ : Int) ≤ _); omega) | (with_reducible (show (_ : Int) < _); omega) | (with_reducible (show (_ : Nat) < _); omega) | (with_reducible (show (_ : Nat) ≤ _); omega) | with_reducible exact Or.inl rfl | with_reducible exact Or.inr rfl | with_reducible exact Or.inl trivial | with_reducible exact Or.inr trivial | (intro hz; exact absurd hz (by decide)) | (intro hz; exfalso; omega) | refine And.intro ?_ ?_ | intro _))
  all_goals first
    | exact h0 _ _ (pzO2 (by assumption) ⟨by assumption, by omega⟩ p1 (by omega)) q1 q2
    | exact h0 _ _ (pzO0 (by assumption) ⟨by assumption, by omega⟩ p1) q1 q2
    | exact h0 _ _ (pzB0 (by assumption) ⟨by assumption, by omega⟩ p1) q1 q2
    | exact h1 _ _ (pzB1 (by assumption) ⟨by assumption, by omega⟩ p1) j3 j4
    | exact h1 _ _ (pzO1 (by assumption) ⟨by assumption, by omega⟩ p1 ⟨by assumption, by assumption⟩) j3 j4
    | exact h1 _ _ (pzM1 (by assumption) (by assumption)) (by assumption) (by assumption)
    | exact h0 _ _ (pzM0 (by assumption) (by assumption)) hK hs
    | exact h1 _ _ (pzN1 (by assumption) (by assumption)) (by assumption) (by assumption)
    | exact h0 _ _ (pzN0 (by assumption) (by assumption)) hK hs
    | exact h0 _ _ (pzZ (by assumption) (by omega) (by omega)) hK hs
    | exact h0 _ _ (pzX (by omega) (by omega) (by omega)) hK hs
theorem c_B {S : mj_S} (hS : mk_Sh S) {T : Int → Int} {L key : Int} {I0 : mj_I} (hkey : 0 ≤ key ∧ key ≤ 2) (hL2 : 0 ≤ L ∧ L ≤ 96) {f : Nat} (ihA : stA T L key I0 S (f + 1)) (ihB : stB T L key I0 S f) (ihC : stC T L key I0 S f) : stB T L key I0 S (f + 1) := by
  intro d Q I md o m s hmd hP hd h1 h0
  have hP' := hP
  obtain ⟨hK, hs, hw, ho, hm, hc, hp, hf⟩ := hP
  have hab := hw.1
  by_cases e5 : md = 5
  · subst e5
    refine x_C false [.inr (9, 0, 115, 0), .inl 5, .inl o, .inl m] [27] 60 hS ⟨xok_rea hS, trivial, trivial, trivial, trivial⟩ ?_
    (repeat' (first | refine ihA _ _ _ _ _ _ hP' (by omega) (fun s1 J1 p1 q1 q2 => ?_) (fun s1 J1 p1 q1 q2 => ?_) | with_reducible assumption | with_reducible exact rfl | with_reducible exact trivial | (with_reducible (show (_ : Int) ≤ _); omega) | (with_reducible (show (_ : Int) < _); omega) | (with_reducible (show (_ : Nat) < _); omega) | (with_reducible (show (_ : Nat) ≤ _); omega) | with_reducible exact Or.inl rfl | with_reducible exact Or.inr rfl | with_reducible exact Or.inl trivial | with_reducible exact Or.inr trivial | (intro hz; exact absurd hz (by decide)) | (intro hz; exfalso; omega) | refine And.intro ?_ ?_ | intro _))
    all_goals first
      | exact h1 _ _ p1 q1 q2
      | exact h0 _ _ p1 q1 q2
  · have nx : s.1.1 = s.1.1 → wfs T L s ∧ True := fun _ => ⟨hw, trivial⟩
    have h45 : 0 ≤ md ∧ md ≤ 4 := by omega
    refine x_C false [.inr (9, 0, 115, 0), .inl md, .inl o, .inl m] [27] 60 hS ⟨xok_rea hS, trivial, trivial, trivial, trivial⟩ ?_
    (repeat' (first | refine ihB _ _ _ _ _ _ _ (by omega) ⟨hK, hs, hw, (by omega), (by omega), (by omega), (by omega), (by omega)⟩ (by omega) (fun s1 J1 p1 q1 q2 => have hz := PZ_ok hkey _ _ _ _ _ _ _ p1 hw; have hz1 := hz.1.1; have hz2 := hz.1.2.1; have hz3 := (hz.2.2 rfl).2.1; have hz5 := (hz.2.2 rfl).2.2.1; have hz4 := (hz.2.2 rfl).1 (by omega); ?_) (fun s1 J1 p1 q1 q2 => ?_) | with_reducible assumption | with_reducible exact rfl | with_reducible exact trivial | (with_reducible (show (_ : Int) ≤ _); omega) | (with_reducible (show (_ : Int) < _); omega) | (with_reducible (show (_ : Nat) < _); omega) | (with_reducible (show (_ : Nat) ≤ _); omega) | with_reducible exact Or.inl rfl | with_reducible exact Or.inr rfl | with_reducible exact Or.inl trivial | with_reducible exact Or.inr trivial | (intro hz; exact absurd hz (by decide)) | (intro hz; exfalso; omega) | refine And.intro ?_ ?_ | intro _))
    · rename_i z1 z2 z3
      have k := ihC d Q J1 md o m s1 0 none h45 ⟨q1, q2, hz.1, (by omega), (by omega), (by omega), (by omega), (by omega)⟩ (by omega) (by omega) (fun _ => rfl) (fun s2 J2 p2 q3 q4 => h1 _ _ (pzP1 h45 p1 p2) q3 q4) (fun s2 J2 p2 q3 q4 => h0 _ _ (pzP1 h45 p1 p2) q3 q4)
      rw [if_neg z3] at k
      exact k
    · rename_i z1 z2 z3
      have k := ihC d Q J1 md o m s1 0 none h45 ⟨q1, q2, hz.1, (by omega), (by omega), (by omega), (by omega), (by omega)⟩ (by omega) (by omega) (fun _ => rfl) (fun s2 J2 p2 q3 q4 => h1 _ _ (pzP1 h45 p1 p2) q3 q4) (fun s2 J2 p2 q3 q4 => h0 _ _ (pzP1 h45 p1 p2) q3 q4)
      rw [if_pos z3] at k
      exact k
    · exact h0 _ _ (pzP0 h45 p1) q1 q2
theorem c_C {S : mj_S} (hS : mk_Sh S) {T : Int → Int} {L key : Int} {I0 : mj_I} (hkey : 0 ≤ key ∧ key ≤ 2) (hL2 : 0 ≤ L ∧ L ≤ 96) (hTb : ∀ j, 0 ≤ j → j < L → 0 ≤ T j ∧ T j ≤ 255) {f : Nat} (ihB : stB T L key I0 S f) (ihC : stC T L key I0 S f) : stC T L key I0 S (f + 1) := by
  intro d Q I md o m s jn x6 hmd hP hd hj hj2 h1 h0
  obtain ⟨hK, hs, hw, ho, hm, hc, hp, hf⟩ := hP
  have hab := hw.1
  have hlt := hw.2.1
  have nx : s.1.1 ≠ 0 → wfs T L (nxS T L s) ∧ s.1.2.1 + 1 ≤ (nxS T L s).1.2.1 := fun q => pz_nx hw q s.2.1 s.2.2
  have eK := hK.2.2.2
  have e2 := hs.1
  have e3 := hs.2.1
  have l1 : ((nxS T L s).2.1.length : Int) = s.2.1.length := rfl
  have l2 : (nxS T L s).2.2 = s.2.2 := rfl
  have hTs := hTb s.1.2.1 (by omega)
  have hmst : (if md = 2 then (1 : Int) else 96) = 1 ∧ md = 2 ∨ (if md = 2 then (1 : Int) else 96) = 96 ∧ md ≠ 2 := by split <;> omega
  refine x_hd false [27] 80 ?_
  generalize hmm : (if md = 2 then (1 : Int) else 96) = mst at hmst ⊢
  (repeat' (first | rw [e2] | rw [e3] | rw [eK] | refine c_levelOf hS _ ?_ | refine c_nextS hS hL2 hK hs (by omega) (by omega) (fun J j1 j2 => ?_) | refine c_putS hS _ q1 q2 (by have := (nx (by omega)).2; omega) (fun J3 j3 j4 => ?_) | refine ihB _ _ _ _ _ _ _ (by omega) ⟨j1, j2, (nx (by omega)).1, (by omega), (by omega), (by have := (nx (by omega)).2; omega), (by have := (nx (by omega)).2; omega), (by have := (nx (by omega)).2; omega)⟩ (by omega) (fun s1 J1 p1 q1 q2 => have hz := PZ_ok hkey _ _ _ _ _ _ _ p1 (nx (by omega)).1; have hz1 := hz.1.1; have hz2 := hz.1.2.1; have hz3 := (hz.2.2 rfl).2.1; have hz5 := (hz.2.2 rfl).2.2.1; have hz4 := (hz.2.2 rfl).1 (by omega); ?_) (fun s1 J1 p1 q1 q2 => ?_) | with_reducible assumption | with_reducible exact rfl | with_reducible exact trivial | (with_reducible (show (_ : Int) ≤ _); omega) | (with_reducible (show (_ : Int) < _); omega) | (with_reducible (show (_ : Nat) < _); omega) | (with_reducible (show (_ : Nat) ≤ _); omega) | with_reducible exact Or.inl rfl | with_reducible exact Or.inr rfl | with_reducible exact Or.inl trivial | with_reducible exact Or.inr trivial | (intro hz; exact absurd hz (by decide)) | (intro hz; exfalso; omega) | refine And.intro ?_ ?_ | intro _))
  · exact h1 _ _ (pzJe (by omega) (fun q => by have := hlt (by omega); omega)) hK hs
  · exact h1 _ _ (pzJe (by omega) (by omega)) hK hs
  · exact h1 _ _ (pzJe (by omega) (by omega)) hK hs
  · rename_i z1 z2 z3 z4
    have p1' : PZ T L key f (md + 10 - 9) o m (nxS T L s) true s1 := by rw [show md + 10 - 9 = md + 1 by omega]; exact p1
    have hnx := (nx (by omega)).2
    by_cases e : md = 2
    · have hm1 : mst = 1 := by omega
      have k : xW d 86 27 [some (.inr (9, 0, 115, 0)), some (.inl md), some (.inl o), some (.inl m), some (.inl mst), some (.inl (jn + 1)), some (.inl (T s.1.2.1))] [] J3 S Q := by
        refine x_hd false [] 20 ?_
        (repeat' (first | with_reducible assumption | with_reducible exact rfl | with_reducible exact trivial | (with_reducible (show (_ : Int) ≤ _); omega) | (with_reducible (show (_ : Int) < _); omega) | (with_reducible (show (_ : Nat) < _); omega) | (with_reducible (show (_ : Nat) ≤ _); omega) | with_reducible exact Or.inl rfl | with_reducible exact Or.inr rfl | with_reducible exact Or.inl trivial | with_reducible exact Or.inr trivial | (intro hz; exact absurd hz (by decide)) | (intro hz; exfalso; omega) | refine And.intro ?_ ?_ | intro _))
        exact h1 _ _ (pzJ2 (by omega) ⟨z2, by omega⟩ p1') j3 j4
      exact k
    · have hl : ((putS s1 (-(T s.1.2.1))).2.1.length : Int) = s1.2.1.length + 1 := len_sn
      have hl2 : (putS s1 (-(T s.1.2.1))).2.2 = s1.2.2 := rfl
      have hl3 : (putS s1 (-(T s.1.2.1))).1 = s1.1 := rfl
      have k := ihC d Q J3 md o m (putS s1 (-(T s.1.2.1))) (jn + 1) (some (.inl (T s.1.2.1))) hmd ⟨j3, j4, hz.1, (by omega), (by omega), (by rw [hl, hl3]; omega), (by rw [hl2, hl3]; omega), (by rw [hl3]; omega)⟩ (by omega) (by rw [hl3]; omega) (fun q => absurd q e) (fun s2 J2 p2 q3 q4 => h1 _ _ (pzJ1 (by omega) (by omega) ⟨z2, by omega⟩ p1' p2) q3 q4) (fun s2 J2 p2 q3 q4 => h0 _ _ (pzJ1 (by omega) (by omega) ⟨z2, by omega⟩ p1' p2) q3 q4)
      rw [hmm] at k
      exact k
  · rename_i z1 z2 z3 z4
    have p1' : PZ T L key f (md + 10 - 9) o m (nxS T L s) false s1 := by rw [show md + 10 - 9 = md + 1 by omega]; exact p1
    exact h0 _ _ (pzJ0 (by omega) ⟨z2, by omega⟩ p1') q1 q2
theorem c_PZ {S : mj_S} (hS : mk_Sh S) {Lx : Nat} {xs : Nat → Int32} {T : Int → Int} {L key : Int} {I0 : mj_I} (hO1 : ∀ a, a < 20 → I0 a = mj_I0 xs a) (hO2 : ∀ a, a < 20 → S.1 a = (mj_S0 Lx).1 a ∧ S.2.1 a = (mj_S0 Lx).2.1 a) (hkey : 0 ≤ key ∧ key ≤ 2) (hL2 : 0 ≤ L ∧ L ≤ 96) (hTb : ∀ j, 0 ≤ j → j < L → 0 ≤ T j ∧ T j ≤ 255) : ∀ f : Nat, stA T L key I0 S f ∧ stB T L key I0 S f ∧ stC T L key I0 S f
  | 0 => by
    refine ⟨?_, ?_, ?_⟩
    · intro d Q I o m s hP
      obtain ⟨hK, hs, hw, ho, hm, hc, hp, hf⟩ := hP
      have hab := hw.1
      exfalso; omega
    · intro d Q I md o m s hmd hP
      obtain ⟨hK, hs, hw, ho, hm, hc, hp, hf⟩ := hP
      have hab := hw.1
      exfalso; omega
    · intro d Q I md o m s jn x6 hmd hP
      obtain ⟨hK, hs, hw, ho, hm, hc, hp, hf⟩ := hP
      have hab := hw.1
      exfalso; omega
  | f + 1 => by
    have ih := c_PZ hS hO1 hO2 hkey hL2 hTb f
    have a := c_A hS hO1 hO2 hkey hL2 hTb ih.1 ih.2.1
    exact ⟨a, c_B hS hkey hL2 a ih.2.1 ih.2.2, c_C hS hkey hL2 hTb ih.2.1 ih.2.2⟩
