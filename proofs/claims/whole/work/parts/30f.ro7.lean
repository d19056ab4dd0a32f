/-! whoMay, stepTold -/
def wmS (N : Int → Int) (s d : Int) : Nat → Int
  | 0 => 0
  | p + 1 => if mayS N z0 p s d = true then mj_or (wmS N s d p) (mj_shl 1 p) else wmS N s d p
theorem wmS_7 (N : Int → Int) (s d : Int) : ∀ k : Nat, k ≤ 7 → mt7 (wmS N s d k)
  | 0, _ => mt7_0
  | k + 1, h => by
    unfold wmS
    split
    · exact mt7_or (wmS_7 N s d k (by omega)) (by omega)
    · exact wmS_7 N s d k (by omega)
theorem wmS_t (N : Int → Int) (s d : Int) : ∀ k : Nat, k ≤ 7 → ∀ i : Nat, i < 32 → mt (wmS N s d k) i = (decide (i < k) && mayS N z0 i s d)
  | 0, _, i, hi => by
    rw [decide_eq_false (by omega), Bool.false_and]
    exact mt_0 i
  | k + 1, h, i, hi => by
    have ih := wmS_t N s d k (by omega) i hi
    unfold wmS
    split
    · rename_i q
      rw [mt_or, ih, mt_one (by omega) hi]
      by_cases e : i = k
      · subst e
        rw [decide_eq_true (show (i : Int) = i from rfl), decide_eq_true (show i < i + 1 by omega), q]
        simp
      · rw [decide_eq_false (show ¬ (i : Int) = k by omega), Bool.or_false]
        by_cases e2 : i < k
        · rw [decide_eq_true e2, decide_eq_true (show i < k + 1 by omega)]
        · rw [decide_eq_false e2, decide_eq_false (show ¬ i < k + 1 by omega)]
    · rename_i q
      rw [ih]
      by_cases e : i = k
      · subst e
        rw [decide_eq_false (show ¬ i < i by omega), Bool.false_and]
        cases hm : mayS N z0 i s d with
        | true => exact absurd hm q
        | false => simp
      · by_cases e2 : i < k
        · rw [decide_eq_true e2, decide_eq_true (show i < k + 1 by omega)]
        · rw [decide_eq_false e2, decide_eq_false (show ¬ i < k + 1 by omega)]
/-- how many may -/
def cmN (N : Int → Int) (s d : Int) : Nat → Int
  | 0 => 0
  | p + 1 => cmN N s d p + (if mayS N z0 p s d = true then 1 else 0)
theorem cmN_b (N : Int → Int) (s d : Int) : ∀ k : Nat, 0 ≤ cmN N s d k ∧ cmN N s d k ≤ k
  | 0 => ⟨Int.le_refl 0, Int.le_refl 0⟩
  | k + 1 => by
    have ih := cmN_b N s d k
    unfold cmN
    split <;> omega
theorem pcn_wm {N : Int → Int} {s d : Int} {k : Nat} (hk : k ≤ 7) : ∀ j : Nat, j ≤ 7 → pcn (wmS N s d k) j = cmN N s d (min j k)
  | 0, _ => by rw [Nat.zero_min]; rfl
  | j + 1, hj => by
    have ih := pcn_wm (N := N) (s := s) (d := d) hk j (by omega)
    unfold pcn
    rw [ih, wmS_t N s d k hk j (by omega)]
    by_cases e : j < k
    · rw [decide_eq_true e, Bool.true_and, show min j k = j by omega, show min (j + 1) k = j + 1 by omega]
      rfl
    · rw [decide_eq_false e, Bool.false_and, show min j k = k by omega, show min (j + 1) k = k by omega]
      simp
/-- 34 whoMay -/
theorem c_whoMay {d : Nat} {I : mj_I} {S : mj_S} {Q : mj_Q} (hS : mk_Sh S) {b : Nat} (hb : mB b) {N : Int → Int} (hN : Inv N) (hC : Cb I S b N) (s day : Int) (hd : 3 < d) (hs : 0 ≤ s ∧ s < N 3)
    (h : ∀ I', fr (fun a => a = b + 12 ∨ a = b + 13) I I' → Q (some (.inl (wmS N s day (N 2).toNat))) I' S) : mj_C d 34 [.inr b, .inl s, .inl day] I S Q := by
  have hH := hN.1
  have hCH := hC.1
  unfold InvH at hH
  unfold CbH at hCH
  have hb61 : b ≤ 61 := by unfold mB at hb; omega
  have loop : ∀ m k : Nat, (k + m : Int) = N 2 → ∀ (a kk : Int) (J : mj_I), kk = k → a = wmS N s day k → fr (fun a => a = b + 12 ∨ a = b + 13) I J → xW d 34 4 [some (.inr (2, b, b, 0)), some (.inl s), some (.inl day), some (.inl a), some (.inl kk)] [] J S Q := by
    intro m
    induction m with
    | zero =>
      intro k hk a kk J h1 h2 h3
      have e1 : J b 1 = I b 1 := h3.f (by omega) 1
      refine x_hd false [4] 30 ?_
      (repeat' (first | with_reducible assumption | with_reducible exact rfl | with_reducible exact trivial | (with_reducible (show (_ : Int) ≤ _); omega) | (with_reducible (show (_ : Int) < _); omega) | (with_reducible (show (_ : Nat) < _); omega) | (with_reducible (show (_ : Nat) ≤ _); omega) | with_reducible exact Or.inl rfl | with_reducible exact Or.inr rfl | with_reducible exact Or.inl trivial | with_reducible exact Or.inr trivial | (intro hz; exact absurd hz (by decide)) | (intro hz; exfalso; omega) | refine And.intro ?_ ?_ | intro _))
      refine Qe (h J h3) ?_
      rw [h2, show (N 2).toNat = k by omega]
    | succ m ih =>
      intro k hk a kk J h1 h2 h3
      subst h1
      have e1 : J b 1 = I b 1 := h3.f (by omega) 1
      have hCJ := hC.fr hN.1 h3 (fun a q => by unfold bc at q; omega)
      refine x_hd false [4] 30 ?_
      (repeat' (first | refine c_mayDo hS hb hN hCJ _ _ _ ?_ ?_ ?_ ?_ ?_ | with_reducible assumption | with_reducible exact rfl | with_reducible exact trivial | (with_reducible (show (_ : Int) ≤ _); omega) | (with_reducible (show (_ : Int) < _); omega) | (with_reducible (show (_ : Nat) < _); omega) | (with_reducible (show (_ : Nat) ≤ _); omega) | with_reducible exact Or.inl rfl | with_reducible exact Or.inr rfl | with_reducible exact Or.inl trivial | with_reducible exact Or.inr trivial | (intro hz; exact absurd hz (by decide)) | (intro hz; exfalso; omega) | refine And.intro ?_ ?_ | intro _))
      · rename_i z K hK _
        refine ih (k + 1) (by omega) _ _ _ (by omega) ?_ (h3.tr hK)
        unfold wmS
        rw [if_pos z, h2]
      · rename_i z K hK _
        refine ih (k + 1) (by omega) _ _ _ (by omega) ?_ (h3.tr hK)
        unfold wmS
        rw [if_neg (by rw [z]; decide), h2]
  refine x_C false [.inr (2, b, b, 0), .inl s, .inl day] [4] 30 hS ⟨xok_b hS hb, trivial, trivial, trivial⟩ ?_
  (repeat' (first | with_reducible assumption | with_reducible exact rfl | with_reducible exact trivial | (with_reducible (show (_ : Int) ≤ _); omega) | (with_reducible (show (_ : Int) < _); omega) | (with_reducible (show (_ : Nat) < _); omega) | (with_reducible (show (_ : Nat) ≤ _); omega) | with_reducible exact Or.inl rfl | with_reducible exact Or.inr rfl | with_reducible exact Or.inl trivial | with_reducible exact Or.inr trivial | (intro hz; exact absurd hz (by decide)) | (intro hz; exfalso; omega) | refine And.intro ?_ ?_ | intro _))
  exact loop (N 2).toNat 0 (by omega) _ _ _ rfl rfl fr.refl
def stS (N : Int → Int) (v w : Int) : Int := if ¬ (0 ≤ v ∧ v < N 3) then -1000000001 else if w = 0 then (if N (64 + 4 * v + 0) < 0 then -1000000005 else N (64 + 4 * v + 0)) else if w = 1 then N (64 + 4 * v + 1) else if w = 2 then N (64 + 4 * v + 2) else if w = 3 then (if N (64 + 4 * v + 3) < 0 then -1000000005 else N (64 + 4 * v + 3)) else if w = 4 then cmN N v (N 1) (N 2).toNat else -1000000001
theorem P_stepTold {L : Nat} {xs : Nat → Int32} {n : Nat} (v w : Int) : Pair L xs n 32 212 [.inl v, .inl w] := by
  refine pair_ro (fun N _ => stS N v w) (fun _ _ _ => rfl) (fun I S Q hR h => ?_) (fun I S Q hR h => ?_)
  · obtain ⟨hS, hO, ⟨hN, hCb⟩, hI, hTp, hWt, hSh, hSl, hMo, hCa, hBd⟩ := hR
    have hH := hN.1
    have hCH := hCb.1
    have hb : mB 21 := Or.inl rfl
    unfold InvH at hH
    unfold CbH at hCH
    by_cases hv : 0 ≤ v ∧ v < rd I 151 3
    · have hCS := hCb.2.2.1 v hv.1 hv.2
      unfold CbS at hCS
      have e13 : I 21 13 = rd I 151 1 := hCH.2.1
      refine x_C false [.inr (1, 0, 20, 0), .inl v, .inl w] [] 60 hS ⟨xok_w hS, trivial, trivial, trivial⟩ ?_
      (repeat' (first | rw [e13] | refine c_hasStep hS hb _ ?_ ?_ ?_ ?_ | refine c_whoMay hS hb hN hCb _ _ ?_ ?_ ?_ | refine c_bits _ (wmS_7 _ _ _ _ (by omega)) ?_ | with_reducible assumption | with_reducible exact rfl | with_reducible exact trivial | (with_reducible (show (_ : Int) ≤ _); omega) | (with_reducible (show (_ : Int) < _); omega) | (with_reducible (show (_ : Nat) < _); omega) | (with_reducible (show (_ : Nat) ≤ _); omega) | with_reducible exact Or.inl rfl | with_reducible exact Or.inr rfl | with_reducible exact Or.inl trivial | with_reducible exact Or.inr trivial | (intro hz; exact absurd hz (by decide)) | (intro hz; exfalso; omega) | refine And.intro ?_ ?_ | intro _))
      all_goals first
        | (refine Qe (h _ fr.refl) ?_; unfold stS; omega)
        | (rename_i J hJ
           refine Qe (h _ (scr2 hb hJ)) ?_
           unfold pc7
           rw [pcn_wm (by omega) 7 (by omega), show min 7 (rd I 151 2).toNat = (rd I 151 2).toNat by omega]
           unfold stS
           omega)
    · refine x_C false [.inr (1, 0, 20, 0), .inl v, .inl w] [] 60 hS ⟨xok_w hS, trivial, trivial, trivial⟩ ?_
      (repeat' (first | refine c_hasStep hS hb _ ?_ ?_ ?_ ?_ | with_reducible assumption | with_reducible exact rfl | with_reducible exact trivial | (with_reducible (show (_ : Int) ≤ _); omega) | (with_reducible (show (_ : Int) < _); omega) | (with_reducible (show (_ : Nat) < _); omega) | (with_reducible (show (_ : Nat) ≤ _); omega) | with_reducible exact Or.inl rfl | with_reducible exact Or.inr rfl | with_reducible exact Or.inl trivial | with_reducible exact Or.inr trivial | (intro hz; exact absurd hz (by decide)) | (intro hz; exfalso; omega) | refine And.intro ?_ ?_ | intro _))
      all_goals (refine Qe (h _ fr.refl) ?_; unfold stS; omega)
  · obtain ⟨hS, hO, ⟨hN, hCb⟩, hI, hTp, hWt, hSh, hSl, hMo, hCa, hBd⟩ := hR
    have hH := hN.1
    have hCH := hCb.1
    have hb : mB 21 := Or.inl rfl
    unfold InvH at hH
    unfold CbH at hCH
    by_cases hv : 0 ≤ v ∧ v < rd I 151 3
    · have loop : w = 4 → ∀ m k : Nat, (k + m : Int) = rd I 151 2 → ∀ (a kk : Int) (J : mj_I), kk = k → a = cmN (rd I 151) v (rd I 151 1) k → fr scr I J → xW 400 212 34 [some (.inr (13, 0, 150, 0)), some (.inl v), some (.inl w), some (.inl a), some (.inl kk)] [] J S Q := by
        intro hw4 m
        induction m with
        | zero =>
          intro k hk a kk J h1 h2 h3
          have e151 : rd J 151 = rd I 151 := h3.r (by unfold scr; omega)
          refine x_hd false [34] 40 ?_
          (repeat' (first | rw [e151] | with_reducible assumption | with_reducible exact rfl | with_reducible exact trivial | (with_reducible (show (_ : Int) ≤ _); omega) | (with_reducible (show (_ : Int) < _); omega) | (with_reducible (show (_ : Nat) < _); omega) | (with_reducible (show (_ : Nat) ≤ _); omega) | with_reducible exact Or.inl rfl | with_reducible exact Or.inr rfl | with_reducible exact Or.inl trivial | with_reducible exact Or.inr trivial | (intro hz; exact absurd hz (by decide)) | (intro hz; exfalso; omega) | refine And.intro ?_ ?_ | intro _))
          refine Qe (h J h3) ?_
          rw [h2]
          unfold stS
          rw [show (rd I 151 2).toNat = k by omega]
          omega
        | succ m ih =>
          intro k hk a kk J h1 h2 h3
          subst h1
          have e151 : rd J 151 = rd I 151 := h3.r (by unfold scr; omega)
          have hMJ : RM J := by unfold RM; rw [h3.r (a := 154) (by unfold scr; omega)]; exact hMo
          have hcb := cmN_b (rd I 151) v (rd I 151 1) k
          refine x_hd false [34] 40 ?_
          (repeat' (first | rw [e151] | refine m_may0 hS _ _ _ (by rw [e151]; exact hN) hMJ ?_ ?_ ?_ ?_ ?_ | with_reducible assumption | with_reducible exact rfl | with_reducible exact trivial | (with_reducible (show (_ : Int) ≤ _); omega) | (with_reducible (show (_ : Int) < _); omega) | (with_reducible (show (_ : Nat) < _); omega) | (with_reducible (show (_ : Nat) ≤ _); omega) | with_reducible exact Or.inl rfl | with_reducible exact Or.inr rfl | with_reducible exact Or.inl trivial | with_reducible exact Or.inr trivial | (intro hz; exact absurd hz (by decide)) | (intro hz; exfalso; omega) | refine And.intro ?_ ?_ | intro _))
          · rename_i z K hK _
            refine ih (k + 1) (by omega) _ _ _ (by omega) ?_ (h3.tr (scr3 hK))
            unfold cmN
            rw [if_pos z, h2]
          · rename_i z K hK _
            refine ih (k + 1) (by omega) _ _ _ (by omega) ?_ (h3.tr (scr3 hK))
            unfold cmN
            rw [if_neg (by rw [z]; decide), h2]
      refine x_C false [.inr (13, 0, 150, 0), .inl v, .inl w] [34] 60 hS ⟨xok_m hS, trivial, trivial, trivial⟩ ?_
      (repeat' (first | refine m_isStep hS _ ?_ ?_ ?_ ?_ | refine c_in _ _ _ ?_ ?_ | refine m_of4 hS _ _ ?_ ?_ ?_ | refine m_orNone _ ?_ | with_reducible assumption | with_reducible exact rfl | with_reducible exact trivial | (with_reducible (show (_ : Int) ≤ _); omega) | (with_reducible (show (_ : Int) < _); omega) | (with_reducible (show (_ : Nat) < _); omega) | (with_reducible (show (_ : Nat) ≤ _); omega) | with_reducible exact Or.inl rfl | with_reducible exact Or.inr rfl | with_reducible exact Or.inl trivial | with_reducible exact Or.inr trivial | (intro hz; exact absurd hz (by decide)) | (intro hz; exfalso; omega) | refine And.intro ?_ ?_ | intro _))
      all_goals first
        | (refine Qe (h _ fr.refl) ?_; unfold stS; omega)
        | exact loop (by omega) (rd I 151 2).toNat 0 (by omega) _ _ _ rfl rfl fr.refl
        | (refine Qe (h _ fr.refl) ?_; have e4 : w = 0 ∨ w = 1 ∨ w = 2 ∨ w = 3 := by omega
           rcases e4 with e | e | e | e <;> subst e <;> unfold stS <;> omega)
    · refine x_C false [.inr (13, 0, 150, 0), .inl v, .inl w] [34] 60 hS ⟨xok_m hS, trivial, trivial, trivial⟩ ?_
      (repeat' (first | refine m_isStep hS _ ?_ ?_ ?_ ?_ | with_reducible assumption | with_reducible exact rfl | with_reducible exact trivial | (with_reducible (show (_ : Int) ≤ _); omega) | (with_reducible (show (_ : Int) < _); omega) | (with_reducible (show (_ : Nat) < _); omega) | (with_reducible (show (_ : Nat) ≤ _); omega) | with_reducible exact Or.inl rfl | with_reducible exact Or.inr rfl | with_reducible exact Or.inl trivial | with_reducible exact Or.inr trivial | (intro hz; exact absurd hz (by decide)) | (intro hz; exfalso; omega) | refine And.intro ?_ ?_ | intro _))
      all_goals (refine Qe (h _ fr.refl) ?_; unfold stS; omega)
