/-! feed -/
theorem mt_255 : ∀ i, i < 32 → mt 255 i = decide (i < 8) := by decide +kernel
theorem mt_ushr (x : Int) {p : Nat} (hp : p < 32) (i : Nat) : mt (mj_ushr x (p : Nat)) i = mt x (p + i) := by
  unfold mt mj_ushr
  rw [Int32.ofInt_toInt]
  exact b_ushr p hp (Int32.ofInt x) i
theorem by_eq (x : Int) {p : Nat} (hp : p ≤ 24) : mj_and (mj_ushr x (p : Nat)) 255 = mj_and (mj_shr x (p : Nat)) 255 := by
  refine mt_ext (mj_and_R _ _) (mj_and_R _ _) (fun i hi => ?_)
  rw [mt_and, mt_and, mt_255 i hi, mt_ushr x (by omega), mt_shr x (by omega) hi]
  by_cases e : i < 8
  · rw [if_pos (by omega)]
  · rw [decide_eq_false e, Bool.and_false, Bool.and_false]
theorem by_b (x : Int) : 0 ≤ mj_and x 255 ∧ mj_and x 255 ≤ 255 := by
  unfold mj_and
  have e := pk_and (Int32.ofInt x) (m := 255) 8 (by decide)
  rw [show Int32.ofInt 255 = (255 : Int32) from rfl, e, nI_toInt (by omega)]
  omega
def wd3 (a b c k : Int) : Int := if k < 4 then a else if k < 8 then b else c
def byF (a b c k : Int) : Int := mj_and (mj_shr (wd3 a b c k) (24 - 8 * (k % 4))) 255
/-- 67 append -/
theorem c_app {d : Nat} {I : mj_I} {S : mj_S} {Q : mj_Q} (hS : mk_Sh S) (x l : Int) (hl : I 115 1 = l) (hl2 : 0 ≤ l ∧ l ≤ 92) (h : ∀ J, fr (fun a => a = 115 ∨ a = 116) I J → J 115 1 = l + 1 + 1 + 1 + 1 → rd J 116 = ru (ru (ru (ru (rd I 116) l (mj_and (mj_ushr x 24) 255)) (l + 1) (mj_and (mj_ushr x 16) 255)) (l + 1 + 1) (mj_and (mj_ushr x 8) 255)) (l + 1 + 1 + 1) (mj_and (mj_ushr x 0) 255) → Q none J S) : mj_C d 67 [.inr 115, .inl x] I S Q := by
  refine x_C false [.inr (9, 0, 115, 0), .inl x] [] 130 hS ⟨xok_rea hS, trivial, trivial⟩ ?_
  (repeat' (first | rw [hl] | rw [mj_up_s] | rw [up_f (by decide)] | rw [show (24 : Int) + -8 = 16 from rfl] | rw [show (16 : Int) + -8 = 8 from rfl] | rw [show (8 : Int) + -8 = 0 from rfl] | with_reducible assumption | with_reducible exact rfl | with_reducible exact trivial | (with_reducible (show (_ : Int) ≤ _); omega) | (with_reducible (show (_ : Int) < _); omega) | (with_reducible (show (_ : Nat) < _); omega) | (with_reducible (show (_ : Nat) ≤ _); omega) | with_reducible exact Or.inl rfl | with_reducible exact Or.inr rfl | with_reducible exact Or.inl trivial | with_reducible exact Or.inr trivial | (intro hz; exact absurd hz (by decide)) | (intro hz; exfalso; omega) | refine And.intro ?_ ?_ | intro _))
  refine h _ ?_ (by rw [mj_up_s]) ?_
  · exact ((((((((fr.refl (X := fun a => a = 115 ∨ a = 116)).up (Or.inr rfl) _ _).mu (Or.inl rfl) _ _).up (Or.inr rfl) _ _).mu (Or.inl rfl) _ _).up (Or.inr rfl) _ _).mu (Or.inl rfl) _ _).up (Or.inr rfl) _ _).mu (Or.inl rfl) _ _
  · simp (disch := omega) only [rd_mu, rd_up]
def fdF (T : Int → Int) (l a b c : Int) (k : Nat) : Int → Int := fun q => if l ≤ q ∧ q < l + k then byF a b c (q - l) else T q
theorem fdF_s {T : Int → Int} {l a b c : Int} {k : Nat} : ru (fdF T l a b c k) (l + k) (byF a b c k) = fdF T l a b c (k + 1) := by
  funext q
  by_cases e : q = l + k
  · subst e
    rw [ru_s]
    unfold fdF
    rw [if_pos (by omega), show l + (k : Int) - l = k by omega]
  · rw [ru_n e]
    unfold fdF
    by_cases e5 : l ≤ q ∧ q < l + (k : Int)
    · rw [if_pos e5, if_pos (by omega)]
    · rw [if_neg e5, if_neg (by omega)]
theorem P_feed {L : Nat} {xs : Nat → Int32} {n : Nat} (a b c : Int) : Pair L xs n 66 233 [.inl a, .inl b, .inl c] := by
  intro I S hn hR
  have hR0 := hR
  obtain ⟨hS, hO, ⟨hN, hCb⟩, hI, hTp, hWt, hSh, hSl, hMo, hCa, hBd⟩ := hR
  have hH := hN.1
  have hCH := hCb.1
  have hb : mB 21 := Or.inl rfl
  unfold InvH at hH
  unfold CbH at hCH
  have hT := hTp
  unfold RT at hT
  by_cases hf : 96 < I 150 8 + 12
  · refine pair_no hn hR0 (-1000000003) (fun Q h => ?_) (fun Q h => ?_)
    · refine x_C false [.inr (1, 0, 20, 0), .inl a, .inl b, .inl c] [] 30 hS ⟨xok_w hS, trivial, trivial, trivial, trivial⟩ ?_
      (repeat' (first | with_reducible assumption | with_reducible exact rfl | with_reducible exact trivial | (with_reducible (show (_ : Int) ≤ _); omega) | (with_reducible (show (_ : Int) < _); omega) | (with_reducible (show (_ : Nat) < _); omega) | (with_reducible (show (_ : Nat) ≤ _); omega) | with_reducible exact Or.inl rfl | with_reducible exact Or.inr rfl | with_reducible exact Or.inl trivial | with_reducible exact Or.inr trivial | (intro hz; exact absurd hz (by decide)) | (intro hz; exfalso; omega) | refine And.intro ?_ ?_ | intro _))
      all_goals exact h
    · refine x_C false [.inr (13, 0, 150, 0), .inl a, .inl b, .inl c] [] 30 hS ⟨xok_m hS, trivial, trivial, trivial, trivial⟩ ?_
      (repeat' (first | with_reducible assumption | with_reducible exact rfl | with_reducible exact trivial | (with_reducible (show (_ : Int) ≤ _); omega) | (with_reducible (show (_ : Int) < _); omega) | (with_reducible (show (_ : Nat) < _); omega) | (with_reducible (show (_ : Nat) ≤ _); omega) | with_reducible exact Or.inl rfl | with_reducible exact Or.inr rfl | with_reducible exact Or.inl trivial | with_reducible exact Or.inr trivial | (intro hz; exact absurd hz (by decide)) | (intro hz; exfalso; omega) | refine And.intro ?_ ?_ | intro _))
      all_goals exact h
  · generalize hw : I 150 8 = l at *
    have e1 : I 115 1 = l := hT.1
    refine pair_ot hn hR0 (l + 12) (fun K => fr (fun x => x = 115 ∨ x = 116) I K ∧ K 115 1 = l + 12 ∧ (∀ q, 0 ≤ q → q < l + 12 → rd K 116 q = fdF (rd I 116) l a b c 12 q)) (fun Q h => ?_) (fun K Q hK hP h150 h151 h => ?_)
    · refine x_C false [.inr (1, 0, 20, 0), .inl a, .inl b, .inl c] [] 30 hS ⟨xok_w hS, trivial, trivial, trivial, trivial⟩ ?_
      (repeat' (first | with_reducible assumption | with_reducible exact rfl | with_reducible exact trivial | (with_reducible (show (_ : Int) ≤ _); omega) | (with_reducible (show (_ : Int) < _); omega) | (with_reducible (show (_ : Nat) < _); omega) | (with_reducible (show (_ : Nat) ≤ _); omega) | with_reducible exact Or.inl rfl | with_reducible exact Or.inr rfl | with_reducible exact Or.inl trivial | with_reducible exact Or.inr trivial | (intro hz; exact absurd hz (by decide)) | (intro hz; exfalso; omega) | refine And.intro ?_ ?_ | intro _))
      refine c_app hS _ l e1 (by omega) (fun J1 f1 g1 r1 => ?_)
      (repeat' (first | with_reducible assumption | with_reducible exact rfl | with_reducible exact trivial | (with_reducible (show (_ : Int) ≤ _); omega) | (with_reducible (show (_ : Int) < _); omega) | (with_reducible (show (_ : Nat) < _); omega) | (with_reducible (show (_ : Nat) ≤ _); omega) | with_reducible exact Or.inl rfl | with_reducible exact Or.inr rfl | with_reducible exact Or.inl trivial | with_reducible exact Or.inr trivial | (intro hz; exact absurd hz (by decide)) | (intro hz; exfalso; omega) | refine And.intro ?_ ?_ | intro _))
      refine c_app hS _ _ g1 (by omega) (fun J2 f2 g2 r2 => ?_)
      (repeat' (first | with_reducible assumption | with_reducible exact rfl | with_reducible exact trivial | (with_reducible (show (_ : Int) ≤ _); omega) | (with_reducible (show (_ : Int) < _); omega) | (with_reducible (show (_ : Nat) < _); omega) | (with_reducible (show (_ : Nat) ≤ _); omega) | with_reducible exact Or.inl rfl | with_reducible exact Or.inr rfl | with_reducible exact Or.inl trivial | with_reducible exact Or.inr trivial | (intro hz; exact absurd hz (by decide)) | (intro hz; exfalso; omega) | refine And.intro ?_ ?_ | intro _))
      refine c_app hS _ _ g2 (by omega) (fun J3 f3 g3 r3 => ?_)
      (repeat' (first | with_reducible assumption | with_reducible exact rfl | with_reducible exact trivial | (with_reducible (show (_ : Int) ≤ _); omega) | (with_reducible (show (_ : Int) < _); omega) | (with_reducible (show (_ : Nat) < _); omega) | (with_reducible (show (_ : Nat) ≤ _); omega) | with_reducible exact Or.inl rfl | with_reducible exact Or.inr rfl | with_reducible exact Or.inl trivial | with_reducible exact Or.inr trivial | (intro hz; exact absurd hz (by decide)) | (intro hz; exfalso; omega) | refine And.intro ?_ ?_ | intro _))
      have f := (f1.tr f2).tr f3
      refine Qe (h J3 (f.mo (fun x q => by unfold ocl; omega)) (fun k hk => by rw [f 20 (by omega)]) ⟨f, by omega, fun q h0 h1 => ?_⟩) (by omega)
      rw [r3, r2, r1]
      unfold fdF
      by_cases e : l ≤ q
      · rw [if_pos (by omega)]
        have hi : q = l ∨ q = l + 1 ∨ q = l + 2 ∨ q = l + 3 ∨ q = l + 4 ∨ q = l + 5 ∨ q = l + 6 ∨ q = l + 7 ∨ q = l + 8 ∨ q = l + 9 ∨ q = l + 10 ∨ q = l + 11 := by omega
        have k24 := fun x => by_eq x (p := 24) (by decide)
        have k16 := fun x => by_eq x (p := 16) (by decide)
        have k8 := fun x => by_eq x (p := 8) (by decide)
        have k0 := fun x => by_eq x (p := 0) (by decide)
        have z0 : q - l = 0 ∨ q - l = 1 ∨ q - l = 2 ∨ q - l = 3 ∨ q - l = 4 ∨ q - l = 5 ∨ q - l = 6 ∨ q - l = 7 ∨ q - l = 8 ∨ q - l = 9 ∨ q - l = 10 ∨ q - l = 11 := by omega
        rcases z0 with z | z | z | z | z | z | z | z | z | z | z | z <;> rw [z]
        · rw [ru_n (by omega), ru_n (by omega), ru_n (by omega), ru_n (by omega), ru_n (by omega), ru_n (by omega), ru_n (by omega), ru_n (by omega), ru_n (by omega), ru_n (by omega), ru_n (by omega), show q = l by omega, ru_s]; exact k24 a
        · rw [ru_n (by omega), ru_n (by omega), ru_n (by omega), ru_n (by omega), ru_n (by omega), ru_n (by omega), ru_n (by omega), ru_n (by omega), ru_n (by omega), ru_n (by omega), show q = l + 1 by omega, ru_s]; exact k16 a
        · rw [ru_n (by omega), ru_n (by omega), ru_n (by omega), ru_n (by omega), ru_n (by omega), ru_n (by omega), ru_n (by omega), ru_n (by omega), ru_n (by omega), show q = l + 1 + 1 by omega, ru_s]; exact k8 a
        · rw [ru_n (by omega), ru_n (by omega), ru_n (by omega), ru_n (by omega), ru_n (by omega), ru_n (by omega), ru_n (by omega), ru_n (by omega), show q = l + 1 + 1 + 1 by omega, ru_s]; exact k0 a
        · rw [ru_n (by omega), ru_n (by omega), ru_n (by omega), ru_n (by omega), ru_n (by omega), ru_n (by omega), ru_n (by omega), show q = l + 1 + 1 + 1 + 1 by omega, ru_s]; exact k24 b
        · rw [ru_n (by omega), ru_n (by omega), ru_n (by omega), ru_n (by omega), ru_n (by omega), ru_n (by omega), show q = l + 1 + 1 + 1 + 1 + 1 by omega, ru_s]; exact k16 b
        · rw [ru_n (by omega), ru_n (by omega), ru_n (by omega), ru_n (by omega), ru_n (by omega), show q = l + 1 + 1 + 1 + 1 + 1 + 1 by omega, ru_s]; exact k8 b
        · rw [ru_n (by omega), ru_n (by omega), ru_n (by omega), ru_n (by omega), show q = l + 1 + 1 + 1 + 1 + 1 + 1 + 1 by omega, ru_s]; exact k0 b
        · rw [ru_n (by omega), ru_n (by omega), ru_n (by omega), show q = l + 1 + 1 + 1 + 1 + 1 + 1 + 1 + 1 by omega, ru_s]; exact k24 c
        · rw [ru_n (by omega), ru_n (by omega), show q = l + 1 + 1 + 1 + 1 + 1 + 1 + 1 + 1 + 1 by omega, ru_s]; exact k16 c
        · rw [ru_n (by omega), show q = l + 1 + 1 + 1 + 1 + 1 + 1 + 1 + 1 + 1 + 1 by omega, ru_s]; exact k8 c
        · rw [show q = l + 1 + 1 + 1 + 1 + 1 + 1 + 1 + 1 + 1 + 1 + 1 by omega, ru_s]; exact k0 c
      · rw [if_neg (by omega)]
        simp (disch := omega) only [ru_n]
    · have e8 : K 150 8 = l := by rw [h150, hw]
      have loop : ∀ m k : Nat, k + m = 12 → ∀ (kk : Int) (w : Option xV) (J : mj_I), kk = k → fr (fun x => x = 156) K J → rd J 156 = fdF (rd K 156) l a b c k →
          xW 400 233 10 [some (.inr (13, 0, 150, 0)), some (.inl a), some (.inl b), some (.inl c), some (.inl kk), w] [] J S Q := by
        intro m
        induction m with
        | zero =>
          intro k hk kk w J h1 h2 h3
          have ek : k = 12 := by omega
          subst ek
          have f8 : J 150 8 = l := by rw [h2 150 (by omega), e8]
          refine x_hd false [10] 40 ?_
          (repeat' (first | rw [f8] | rw [mj_up_s] | with_reducible assumption | with_reducible exact rfl | with_reducible exact trivial | (with_reducible (show (_ : Int) ≤ _); omega) | (with_reducible (show (_ : Int) < _); omega) | (with_reducible (show (_ : Nat) < _); omega) | (with_reducible (show (_ : Nat) ≤ _); omega) | with_reducible exact Or.inl rfl | with_reducible exact Or.inr rfl | with_reducible exact Or.inl trivial | with_reducible exact Or.inr trivial | (intro hz; exact absurd hz (by decide)) | (intro hz; exfalso; omega) | refine And.intro ?_ ?_ | intro _))
          obtain ⟨p1, p2, p3⟩ := hP
          have ej : ∀ x, ¬ x = 150 → ¬ x = 156 → mj_up J 150 8 (l + 12) x = K x := fun x q1 q2 => by rw [mu_o q1, h2 x q2]
          have ek2 : ∀ x, ¬ x = 115 → ¬ x = 116 → K x = I x := fun x q1 q2 => p1 x (by omega)
          refine h _ ((h2.mo (fun x q => by unfold omd; omega)).mu (Or.inl rfl) _ _) (fun k h8 h47 => by rw [mu_f (by omega), h2 150 (by omega)]) ?_ ?_ ?_ ?_
          · unfold RT
            rw [mj_up_s, ej 115 (by decide) (by decide), p2, rd_oo (ej 116 (by decide) (by decide)), rd_mu (by decide), h3]
            refine ⟨rfl, by omega, fun q h0 h1 => ?_⟩
            rw [p3 q h0 h1]
            unfold fdF
            by_cases e : l ≤ q
            · rw [if_pos (by omega), if_pos (by omega)]
              exact ⟨rfl, by_b _⟩
            · rw [if_neg (by omega), if_neg (by omega), rd_oo (ek2 156 (by decide) (by decide))]
              exact hT.2.2 q h0 (by omega)
          · exact RW_s hWt (by rw [ej 20 (by decide) (by decide), ek2 20 (by decide) (by decide)]) (by rw [mu_f (by omega), h2 150 (by omega), h150]) (rd_oo (by rw [ej 120 (by decide) (by decide), ek2 120 (by decide) (by decide)])) (rd_oo (by rw [ej 180 (by decide) (by decide), ek2 180 (by decide) (by decide)]))
          · exact RSh_s hSh (fun x q1 q2 => by rw [ej x (by omega) (by omega), ek2 x (by omega) (by omega)]) (rd_oo (by rw [ej 172 (by decide) (by decide), ek2 172 (by decide) (by decide)])) (rd_oo (by rw [ej 173 (by decide) (by decide), ek2 173 (by decide) (by decide)])) (rd_oo (by rw [ej 174 (by decide) (by decide), ek2 174 (by decide) (by decide)]))
          · exact RSl_s hSl (fun x q1 q2 => by rw [ej x (by omega) (by omega), ek2 x (by omega) (by omega)]) (rd_oo (by rw [ej 175 (by decide) (by decide), ek2 175 (by decide) (by decide)])) (rd_oo (by rw [ej 176 (by decide) (by decide), ek2 176 (by decide) (by decide)])) (rd_oo (by rw [ej 177 (by decide) (by decide), ek2 177 (by decide) (by decide)])) (rd_oo (by rw [ej 178 (by decide) (by decide), ek2 178 (by decide) (by decide)]))
        | succ m ih =>
          intro k hk kk w J h1 h2 h3
          subst h1
          have f8 : J 150 8 = l := by rw [h2 150 (by omega), e8]
          have em : (k : Int).tmod 4 = (k : Int) % 4 := Int.tmod_eq_emod_of_nonneg (by omega)
          refine x_hd false [10] 60 ?_
          (repeat' (first | rw [f8] | rw [em] | with_reducible assumption | with_reducible exact rfl | with_reducible exact trivial | (with_reducible (show (_ : Int) ≤ _); omega) | (with_reducible (show (_ : Int) < _); omega) | (with_reducible (show (_ : Nat) < _); omega) | (with_reducible (show (_ : Nat) ≤ _); omega) | with_reducible exact Or.inl rfl | with_reducible exact Or.inr rfl | with_reducible exact Or.inl trivial | with_reducible exact Or.inr trivial | (intro hz; exact absurd hz (by decide)) | (intro hz; exfalso; omega) | refine And.intro ?_ ?_ | intro _))
          all_goals (refine ih (k + 1) (by omega) _ _ _ (by omega) (h2.up rfl _ _) ?_; rw [rd_up (by omega) (by omega), h3, ← fdF_s]; unfold byF wd3)
          · rw [if_neg (by omega), if_neg (by omega)]
          · rw [if_neg (by omega), if_pos (by omega)]
          · rw [if_pos (by omega)]
      refine x_C false [.inr (13, 0, 150, 0), .inl a, .inl b, .inl c] [10] 40 hS ⟨xok_m hS, trivial, trivial, trivial, trivial⟩ ?_
      (repeat' (first | with_reducible assumption | with_reducible exact rfl | with_reducible exact trivial | (with_reducible (show (_ : Int) ≤ _); omega) | (with_reducible (show (_ : Int) < _); omega) | (with_reducible (show (_ : Nat) < _); omega) | (with_reducible (show (_ : Nat) ≤ _); omega) | with_reducible exact Or.inl rfl | with_reducible exact Or.inr rfl | with_reducible exact Or.inl trivial | with_reducible exact Or.inr trivial | (intro hz; exact absurd hz (by decide)) | (intro hz; exfalso; omega) | refine And.intro ?_ ?_ | intro _))
      refine loop 12 0 (by omega) _ _ _ rfl fr.refl ?_
      funext q
      unfold fdF
      rw [if_neg (by omega)]
