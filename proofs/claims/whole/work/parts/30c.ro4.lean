/-! calls that only read: textTold, why, judge, log -/
def ttS (N : Int → Int) (t w : Int) : Int := if ¬ ((0 ≤ t ∧ t < N 5) ∧ (w = 0 ∨ w = 1)) then -1000000001 else if w = 0 then (N (238 + 2 * t)).tdiv 1000 else N (238 + 2 * t + 1)
theorem P_textTold {L : Nat} {xs : Nat → Int32} {n : Nat} (t w : Int) : Pair L xs n 112 247 [.inl t, .inl w] := by
  refine pair_ro (fun N _ => ttS N t w) (fun _ _ _ => rfl) (fun I S Q hR h => ?_) (fun I S Q hR h => ?_)
  · obtain ⟨hS, hO, ⟨hN, hCb⟩, hI, hTp, hWt, hSh, hSl, hMo, hCa, hBd⟩ := hR
    have hH := hN.1
    have hCH := hCb.1
    have hb : mB 21 := Or.inl rfl
    unfold InvH at hH
    unfold CbH at hCH
    by_cases hv : 0 ≤ t ∧ t < rd I 151 5
    · have hX := hCb.2.2.2.2.2.2.1 t hv.1 hv.2
      have hx := hX.1
      have hx2 := hX.2.2.1
      obtain ⟨a1, a2, a3, a4, a5, a6, key, nn, a7, a8, a9, a10, a11, a12⟩ := hX
      have e0 : (rd I 151 (238 + 2 * t)).tdiv 1000 = key := by
        rw [a10, Int.tdiv_eq_ediv_of_nonneg (by omega)]
        omega
      refine x_C false [.inr (1, 0, 20, 0), .inl t, .inl w] [] 40 hS ⟨xok_w hS, trivial, trivial, trivial⟩ ?_
      (repeat' (first | refine c_textAt hS hb _ ?_ ?_ ?_ ?_ | refine ⟨(12, 0, mj_rf S (21 + 4) t.toNat, 0), ⟨rfl, xok_t (by omega) (by decide) (by decide)⟩, ?_⟩ | with_reducible assumption | with_reducible exact rfl | with_reducible exact trivial | (with_reducible (show (_ : Int) ≤ _); omega) | (with_reducible (show (_ : Int) < _); omega) | (with_reducible (show (_ : Nat) < _); omega) | (with_reducible (show (_ : Nat) ≤ _); omega) | with_reducible exact Or.inl rfl | with_reducible exact Or.inr rfl | with_reducible exact Or.inl trivial | with_reducible exact Or.inr trivial | (intro hz; exact absurd hz (by decide)) | (intro hz; exfalso; omega) | refine And.intro ?_ ?_ | intro _))
      all_goals (refine Qe (h _ fr.refl) ?_; unfold ttS; first | rw [if_pos (by omega)] | (rw [if_neg (by omega), if_pos (by omega)] <;> omega) | (rw [if_neg (by omega), if_neg (by omega)] <;> omega))
    · refine x_C false [.inr (1, 0, 20, 0), .inl t, .inl w] [] 40 hS ⟨xok_w hS, trivial, trivial, trivial⟩ ?_
      (repeat' (first | refine c_textAt hS hb _ ?_ ?_ ?_ ?_ | refine ⟨(0, 0, 0, 0), ⟨rfl, Or.inl rfl⟩, ?_⟩ | with_reducible assumption | with_reducible exact rfl | with_reducible exact trivial | (with_reducible (show (_ : Int) ≤ _); omega) | (with_reducible (show (_ : Int) < _); omega) | (with_reducible (show (_ : Nat) < _); omega) | (with_reducible (show (_ : Nat) ≤ _); omega) | with_reducible exact Or.inl rfl | with_reducible exact Or.inr rfl | with_reducible exact Or.inl trivial | with_reducible exact Or.inr trivial | (intro hz; exact absurd hz (by decide)) | (intro hz; exfalso; omega) | refine And.intro ?_ ?_ | intro _))
      all_goals (refine Qe (h _ fr.refl) ?_; unfold ttS; rw [if_pos (by omega)])
  · obtain ⟨hS, hO, ⟨hN, hCb⟩, hI, hTp, hWt, hSh, hSl, hMo, hCa, hBd⟩ := hR
    have hH := hN.1
    have hCH := hCb.1
    have hb : mB 21 := Or.inl rfl
    unfold InvH at hH
    unfold CbH at hCH
    by_cases hv : 0 ≤ t ∧ t < rd I 151 5
    · obtain ⟨key, nn, hk, a10, hw, -⟩ := hN.2.2.2.2.2.2 t hv.1 hv.2
      have := hw.2.1
      have e0 : (rd I 151 (238 + 2 * t)).tdiv 1000 = key := by
        rw [a10, Int.tdiv_eq_ediv_of_nonneg (by omega)]
        omega
      refine x_C false [.inr (13, 0, 150, 0), .inl t, .inl w] [] 60 hS ⟨xok_m hS, trivial, trivial, trivial⟩ ?_
      (repeat' (first | refine c_in _ _ _ ?_ ?_ | with_reducible assumption | with_reducible exact rfl | with_reducible exact trivial | (with_reducible (show (_ : Int) ≤ _); omega) | (with_reducible (show (_ : Int) < _); omega) | (with_reducible (show (_ : Nat) < _); omega) | (with_reducible (show (_ : Nat) ≤ _); omega) | with_reducible exact Or.inl rfl | with_reducible exact Or.inr rfl | with_reducible exact Or.inl trivial | with_reducible exact Or.inr trivial | (intro hz; exact absurd hz (by decide)) | (intro hz; exfalso; omega) | refine And.intro ?_ ?_ | intro _))
      all_goals (refine Qe (h _ fr.refl) ?_; unfold ttS; first | rw [if_pos (by omega)] | (rw [if_neg (by omega), if_pos (by omega)] <;> omega) | (rw [if_neg (by omega), if_neg (by omega)] <;> omega))
    · refine x_C false [.inr (13, 0, 150, 0), .inl t, .inl w] [] 60 hS ⟨xok_m hS, trivial, trivial, trivial⟩ ?_
      (repeat' (first | refine c_in _ _ _ ?_ ?_ | with_reducible assumption | with_reducible exact rfl | with_reducible exact trivial | (with_reducible (show (_ : Int) ≤ _); omega) | (with_reducible (show (_ : Int) < _); omega) | (with_reducible (show (_ : Nat) < _); omega) | (with_reducible (show (_ : Nat) ≤ _); omega) | with_reducible exact Or.inl rfl | with_reducible exact Or.inr rfl | with_reducible exact Or.inl trivial | with_reducible exact Or.inr trivial | (intro hz; exact absurd hz (by decide)) | (intro hz; exfalso; omega) | refine And.intro ?_ ?_ | intro _))
      all_goals (refine Qe (h _ fr.refl) ?_; unfold ttS; rw [if_pos (by omega)])
def whS (N : Int → Int) (k : Int) : Int := if ¬ (0 ≤ k ∧ k ≤ 2) then -1000000001 else if latT N k < 0 then -1000000005 else latT N k
theorem P_why {L : Nat} {xs : Nat → Int32} {n : Nat} (k : Int) : Pair L xs n 113 248 [.inl k] := by
  refine pair_ro (fun N _ => whS N k) (fun _ _ _ => rfl) (fun I S Q hR h => ?_) (fun I S Q hR h => ?_)
  · obtain ⟨hS, hO, ⟨hN, hCb⟩, hI, hTp, hWt, hSh, hSl, hMo, hCa, hBd⟩ := hR
    have hH := hN.1
    have hCH := hCb.1
    have hb : mB 21 := Or.inl rfl
    unfold InvH at hH
    unfold CbH at hCH
    have el : 0 ≤ k → k ≤ 2 → rd I (21 + 5) k = latT (rd I 151) k := by
      intro h0 h2
      have : k = 0 ∨ k = 1 ∨ k = 2 := by omega
      rcases this with e | e | e <;> subst e
      · exact hCb.2.2.2.2.2.2.2.1
      · exact hCb.2.2.2.2.2.2.2.2.1
      · exact hCb.2.2.2.2.2.2.2.2.2
    refine x_C false [.inr (1, 0, 20, 0), .inl k] [] 40 hS ⟨xok_w hS, trivial, trivial⟩ ?_
    (repeat' (first | refine c_within _ _ _ ?_ ?_ | with_reducible assumption | with_reducible exact rfl | with_reducible exact trivial | (with_reducible (show (_ : Int) ≤ _); omega) | (with_reducible (show (_ : Int) < _); omega) | (with_reducible (show (_ : Nat) < _); omega) | (with_reducible (show (_ : Nat) ≤ _); omega) | with_reducible exact Or.inl rfl | with_reducible exact Or.inr rfl | with_reducible exact Or.inl trivial | with_reducible exact Or.inr trivial | (intro hz; exact absurd hz (by decide)) | (intro hz; exfalso; omega) | refine And.intro ?_ ?_ | intro _))
    all_goals (refine Qe (h _ fr.refl) ?_; unfold whS; first | rw [if_pos (by omega)] | (rw [if_neg (by omega), ← el (by omega) (by omega)]; omega))
  · obtain ⟨hS, hO, ⟨hN, hCb⟩, hI, hTp, hWt, hSh, hSl, hMo, hCa, hBd⟩ := hR
    have hH := hN.1
    have hCH := hCb.1
    have hb : mB 21 := Or.inl rfl
    unfold InvH at hH
    unfold CbH at hCH
    refine x_C false [.inr (13, 0, 150, 0), .inl k] [] 60 hS ⟨xok_m hS, trivial, trivial⟩ ?_
    (repeat' (first | refine c_in _ _ _ ?_ ?_ | refine m_counts hS _ ?_ hN.2.2.2.2.2.2 ?_ | with_reducible assumption | with_reducible exact rfl | with_reducible exact trivial | (with_reducible (show (_ : Int) ≤ _); omega) | (with_reducible (show (_ : Int) < _); omega) | (with_reducible (show (_ : Nat) < _); omega) | (with_reducible (show (_ : Nat) ≤ _); omega) | with_reducible exact Or.inl rfl | with_reducible exact Or.inr rfl | with_reducible exact Or.inl trivial | with_reducible exact Or.inr trivial | (intro hz; exact absurd hz (by decide)) | (intro hz; exfalso; omega) | refine And.intro ?_ ?_ | intro _))
    all_goals (refine Qe (h _ fr.refl) ?_; unfold whS; first | rw [if_pos (by omega)] | (rw [if_neg (by omega)]; omega))
def lgS (N : Int → Int) (i w : Int) : Int := if i < 0 ∨ ¬ (0 ≤ w ∧ w ≤ 2) then -1000000001 else if N 7 ≤ i then -1000000005 else N (148 + 3 * i + w)
theorem P_log {L : Nat} {xs : Nat → Int32} {n : Nat} (i w : Int) : Pair L xs n 163 278 [.inl i, .inl w] := by
  refine pair_ro (fun N _ => lgS N i w) (fun _ _ _ => rfl) (fun I S Q hR h => ?_) (fun I S Q hR h => ?_)
  · obtain ⟨hS, hO, ⟨hN, hCb⟩, hI, hTp, hWt, hSh, hSl, hMo, hCa, hBd⟩ := hR
    have hH := hN.1
    have hCH := hCb.1
    have hb : mB 21 := Or.inl rfl
    unfold InvH at hH
    unfold CbH at hCH
    have el : 0 ≤ i → i < rd I 151 7 → CbL I 21 (rd I 151) i := fun h0 h1 => hCb.2.2.2.2.2.1 i h0 h1
    unfold CbL at el
    refine x_C false [.inr (1, 0, 20, 0), .inl i, .inl w] [] 40 hS ⟨xok_w hS, trivial, trivial, trivial⟩ ?_
    (repeat' (first | refine c_within _ _ _ ?_ ?_ | with_reducible assumption | with_reducible exact rfl | with_reducible exact trivial | (with_reducible (show (_ : Int) ≤ _); omega) | (with_reducible (show (_ : Int) < _); omega) | (with_reducible (show (_ : Nat) < _); omega) | (with_reducible (show (_ : Nat) ≤ _); omega) | with_reducible exact Or.inl rfl | with_reducible exact Or.inr rfl | with_reducible exact Or.inl trivial | with_reducible exact Or.inr trivial | (intro hz; exact absurd hz (by decide)) | (intro hz; exfalso; omega) | refine And.intro ?_ ?_ | intro _))
    all_goals (refine Qe (h _ fr.refl) ?_; unfold lgS)
    all_goals first
      | rw [if_pos (by omega)]
      | rw [if_neg (by omega), if_pos (by omega)]
      | (have hw0 : w = 0 := by omega
         subst hw0
         rw [if_neg (by omega), if_neg (by omega)]
         have el2 := el (by omega) (by omega)
         omega)
      | (have hw1 : w = 1 := by omega
         subst hw1
         rw [if_neg (by omega), if_neg (by omega)]
         have el2 := el (by omega) (by omega)
         omega)
      | (have hw2 : w = 2 := by omega
         subst hw2
         rw [if_neg (by omega), if_neg (by omega)]
         have el2 := el (by omega) (by omega)
         omega)
  · obtain ⟨hS, hO, ⟨hN, hCb⟩, hI, hTp, hWt, hSh, hSl, hMo, hCa, hBd⟩ := hR
    have hH := hN.1
    have hCH := hCb.1
    have hb : mB 21 := Or.inl rfl
    unfold InvH at hH
    unfold CbH at hCH
    refine x_C false [.inr (13, 0, 150, 0), .inl i, .inl w] [] 60 hS ⟨xok_m hS, trivial, trivial, trivial⟩ ?_
    (repeat' (first | refine c_in _ _ _ ?_ ?_ | with_reducible assumption | with_reducible exact rfl | with_reducible exact trivial | (with_reducible (show (_ : Int) ≤ _); omega) | (with_reducible (show (_ : Int) < _); omega) | (with_reducible (show (_ : Nat) < _); omega) | (with_reducible (show (_ : Nat) ≤ _); omega) | with_reducible exact Or.inl rfl | with_reducible exact Or.inr rfl | with_reducible exact Or.inl trivial | with_reducible exact Or.inr trivial | (intro hz; exact absurd hz (by decide)) | (intro hz; exfalso; omega) | refine And.intro ?_ ?_ | intro _))
    all_goals (refine Qe (h _ fr.refl) ?_; unfold lgS; first | rw [if_pos (by omega)] | (rw [if_neg (by omega), if_pos (by omega)]) | (rw [if_neg (by omega), if_neg (by omega)]))
def jdS (N : Int → Int) : Int := if brkS N (sgn N) < 0 then -1000000005 else brkS N (sgn N)
theorem P_judge {L : Nat} {xs : Nat → Int32} {n : Nat} : Pair L xs n 157 274 [] := by
  refine pair_ro (fun N _ => jdS N) (fun _ _ _ => rfl) (fun I S Q hR h => ?_) (fun I S Q hR h => ?_)
  · obtain ⟨hS, hO, ⟨hN, hCb⟩, hI, hTp, hWt, hSh, hSl, hMo, hCa, hBd⟩ := hR
    have hH := hN.1
    have hCH := hCb.1
    have hb : mB 21 := Or.inl rfl
    unfold InvH at hH
    unfold CbH at hCH
    refine x_C false [.inr (1, 0, 20, 0)] [] 40 hS ⟨xok_w hS, trivial⟩ ?_
    (repeat' (first | refine c_signers hS hb hN hCb ?_ ?_ | refine ⟨(21, 0, 21 + 14, 6), ⟨rfl, ok_do hS hb⟩, ?_⟩ | with_reducible assumption | with_reducible exact rfl | with_reducible exact trivial | (with_reducible (show (_ : Int) ≤ _); omega) | (with_reducible (show (_ : Int) < _); omega) | (with_reducible (show (_ : Nat) < _); omega) | (with_reducible (show (_ : Nat) ≤ _); omega) | with_reducible exact Or.inl rfl | with_reducible exact Or.inr rfl | with_reducible exact Or.inl trivial | with_reducible exact Or.inr trivial | (intro hz; exact absurd hz (by decide)) | (intro hz; exfalso; omega) | refine And.intro ?_ ?_ | intro _))
    rename_i J hJ hW
    have hJ2 := scr14 hb hJ
    refine c_firstBroken hS hb hN (hCb.fr hN.1 hJ2 (fun a q => bc_scr hb q)) (by omega) (fun s h0 h6 => by rw [hW s h0 h6]; exact sgn_b hN s) ?_
    rw [brkS_c hN (W' := sgn (rd I 151)) (fun s h0 h1 => hW s h0 (by omega))]
    (repeat' (first | with_reducible assumption | with_reducible exact rfl | with_reducible exact trivial | (with_reducible (show (_ : Int) ≤ _); omega) | (with_reducible (show (_ : Int) < _); omega) | (with_reducible (show (_ : Nat) < _); omega) | (with_reducible (show (_ : Nat) ≤ _); omega) | with_reducible exact Or.inl rfl | with_reducible exact Or.inr rfl | with_reducible exact Or.inl trivial | with_reducible exact Or.inr trivial | (intro hz; exact absurd hz (by decide)) | (intro hz; exfalso; omega) | refine And.intro ?_ ?_ | intro _))
    all_goals (refine Qe (h _ hJ2) ?_; unfold jdS; omega)
  · obtain ⟨hS, hO, ⟨hN, hCb⟩, hI, hTp, hWt, hSh, hSl, hMo, hCa, hBd⟩ := hR
    have hH := hN.1
    have hCH := hCb.1
    have hb : mB 21 := Or.inl rfl
    unfold InvH at hH
    unfold CbH at hCH
    have loop : ∀ (J : mj_I), fr (fun a => a = 155) I J → (∀ s, 0 ≤ s → s < 6 → rd J 155 s = sgn (rd I 151) s) → ∀ m k : Nat, (k + m : Int) = rd I 151 4 → ∀ kk : Int, kk = k → brkS (rd I 151) (sgn (rd I 151)) = brk (rd I 151) (sgn (rd I 151)) m k → xW 400 274 4 [some (.inr (13, 0, 150, 0)), some (.inl kk)] [] J S Q := by
      intro J hJ hW m
      have e151 : rd J 151 = rd I 151 := hJ.r (by omega)
      induction m with
      | zero =>
        intro k hk kk h1 h2
        refine x_hd false [4] 30 ?_
        (repeat' (first | rw [e151] | with_reducible assumption | with_reducible exact rfl | with_reducible exact trivial | (with_reducible (show (_ : Int) ≤ _); omega) | (with_reducible (show (_ : Int) < _); omega) | (with_reducible (show (_ : Nat) < _); omega) | (with_reducible (show (_ : Nat) ≤ _); omega) | with_reducible exact Or.inl rfl | with_reducible exact Or.inr rfl | with_reducible exact Or.inl trivial | with_reducible exact Or.inr trivial | (intro hz; exact absurd hz (by decide)) | (intro hz; exfalso; omega) | refine And.intro ?_ ?_ | intro _))
        refine Qe (h _ (scr155 hJ)) ?_
        unfold jdS
        rw [h2]
        rfl
      | succ m ih =>
        intro k hk kk h1 h2
        subst h1
        unfold brk at h2
        have ek : keptB (rd I 151) (rd J 155) k = keptB (rd I 151) (sgn (rd I 151)) k := keptB_c hN (by omega) (fun s h0 h1 => hW s h0 (by omega))
        refine x_hd false [4] 30 ?_
        (repeat' (first | rw [e151] | refine m_keptBy hS _ (by rw [e151]; exact hN) (by omega) (by rw [e151]; omega) (fun s h0 h6 => by rw [hW s h0 h6, e151]; exact sgn_b hN s) ?_ ?_ | with_reducible assumption | with_reducible exact rfl | with_reducible exact trivial | (with_reducible (show (_ : Int) ≤ _); omega) | (with_reducible (show (_ : Int) < _); omega) | (with_reducible (show (_ : Nat) < _); omega) | (with_reducible (show (_ : Nat) ≤ _); omega) | with_reducible exact Or.inl rfl | with_reducible exact Or.inr rfl | with_reducible exact Or.inl trivial | with_reducible exact Or.inr trivial | (intro hz; exact absurd hz (by decide)) | (intro hz; exfalso; omega) | refine And.intro ?_ ?_ | intro _))
        · rename_i z _
          rw [ek] at z
          rw [if_pos z] at h2
          exact ih (k + 1) (by omega) _ (by omega) h2
        · rename_i z _
          rw [ek] at z
          rw [if_neg (by rw [z]; decide)] at h2
          refine Qe (h _ (scr155 hJ)) ?_
          unfold jdS
          omega
    refine x_C false [.inr (13, 0, 150, 0)] [4] 40 hS ⟨xok_m hS, trivial⟩ ?_
    (repeat' (first | refine m_signedOnes hS hN ?_ ?_ | with_reducible assumption | with_reducible exact rfl | with_reducible exact trivial | (with_reducible (show (_ : Int) ≤ _); omega) | (with_reducible (show (_ : Int) < _); omega) | (with_reducible (show (_ : Nat) < _); omega) | (with_reducible (show (_ : Nat) ≤ _); omega) | with_reducible exact Or.inl rfl | with_reducible exact Or.inr rfl | with_reducible exact Or.inl trivial | with_reducible exact Or.inr trivial | (intro hz; exact absurd hz (by decide)) | (intro hz; exfalso; omega) | refine And.intro ?_ ?_ | intro _))
    rename_i J hJ hW
    exact loop J hJ hW (rd I 151 4).toNat 0 (by omega) _ rfl rfl
