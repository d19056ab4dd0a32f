/-! calls that only read: as, keeps, textTold, why, judge, log -/
def asS (N : Int → Int) (r k : Int) : Int := if ¬ ((0 ≤ r ∧ r < N 4) ∧ 0 ≤ k ∧ k ≤ 5) then -1000000001 else if unP (N (88 + 4 * r + 0)) k then N (88 + 4 * r + 3) else -1000000012
theorem P_as {L : Nat} {xs : Nat → Int32} {n : Nat} (v w : Int) : Pair L xs n 59 228 [.inl v, .inl w] := by
  refine pair_ro (fun N _ => asS N v w) (fun _ _ _ => rfl) (fun I S Q hR h => ?_) (fun I S Q hR h => ?_)
  · obtain ⟨hS, hO, ⟨hN, hCb⟩, hI, hTp, hWt, hSh, hSl, hMo, hCa, hBd⟩ := hR
    have hH := hN.1
    have hCH := hCb.1
    have hb : mB 21 := Or.inl rfl
    unfold InvH at hH
    unfold CbH at hCH
    by_cases hv : 0 ≤ v ∧ v < rd I 151 4
    · have hCR := hCb.2.2.2.1 v hv.1 hv.2
      have hR2 := hN.2.2.2.1 v hv.1 hv.2
      unfold CbR at hCR
      unfold InvR at hR2
      have e0 : I (21 + 28 + v.toNat) 0 = rd I 151 (88 + 4 * v + 0) := hCR.1
      have e3 : I (21 + 28 + v.toNat) 3 = rd I 151 (88 + 4 * v + 3) := hCR.2.2.2
      refine x_C false [.inr (1, 0, 20, 0), .inl v, .inl w] [] 60 hS ⟨xok_w hS, trivial, trivial, trivial⟩ ?_
      (repeat' (first | rw [e0] | rw [e3] | refine c_hasRule hS hb _ ?_ ?_ ?_ ?_ | refine c_isKind _ ?_ ?_ ?_ | refine c_isUnder hS hO _ _ ?_ ?_ ?_ ?_ ?_ | with_reducible assumption | with_reducible exact rfl | with_reducible exact trivial | (with_reducible (show (_ : Int) ≤ _); omega) | (with_reducible (show (_ : Int) < _); omega) | (with_reducible (show (_ : Nat) < _); omega) | (with_reducible (show (_ : Nat) ≤ _); omega) | with_reducible exact Or.inl rfl | with_reducible exact Or.inr rfl | with_reducible exact Or.inl trivial | with_reducible exact Or.inr trivial | (intro hz; exact absurd hz (by decide)) | (intro hz; exfalso; omega) | refine And.intro ?_ ?_ | intro _))
      all_goals first
        | (refine Qe (h _ fr.refl) ?_; unfold asS; rw [if_pos (by omega)])
        | (refine Qe (h _ fr.refl) ?_; unfold asS; rw [if_neg (by omega), if_pos (by assumption)] <;> omega)
        | (refine Qe (h _ fr.refl) ?_; unfold asS; rw [if_neg (by omega), if_neg (by assumption)])
    · refine x_C false [.inr (1, 0, 20, 0), .inl v, .inl w] [] 60 hS ⟨xok_w hS, trivial, trivial, trivial⟩ ?_
      (repeat' (first | refine c_hasRule hS hb _ ?_ ?_ ?_ ?_ | with_reducible assumption | with_reducible exact rfl | with_reducible exact trivial | (with_reducible (show (_ : Int) ≤ _); omega) | (with_reducible (show (_ : Int) < _); omega) | (with_reducible (show (_ : Nat) < _); omega) | (with_reducible (show (_ : Nat) ≤ _); omega) | with_reducible exact Or.inl rfl | with_reducible exact Or.inr rfl | with_reducible exact Or.inl trivial | with_reducible exact Or.inr trivial | (intro hz; exact absurd hz (by decide)) | (intro hz; exfalso; omega) | refine And.intro ?_ ?_ | intro _))
      all_goals (refine Qe (h _ fr.refl) ?_; unfold asS; rw [if_pos (by omega)])
  · obtain ⟨hS, hO, ⟨hN, hCb⟩, hI, hTp, hWt, hSh, hSl, hMo, hCa, hBd⟩ := hR
    have hH := hN.1
    have hCH := hCb.1
    have hb : mB 21 := Or.inl rfl
    unfold InvH at hH
    unfold CbH at hCH
    refine x_C false [.inr (13, 0, 150, 0), .inl v, .inl w] [] 60 hS ⟨xok_m hS, trivial, trivial, trivial⟩ ?_
    (repeat' (first | refine m_isRule hS _ ?_ ?_ ?_ ?_ | refine c_in _ _ _ ?_ ?_ | refine m_rule4 hS _ _ ?_ ?_ ?_ | refine m_isUnder _ _ ?_ ?_ | with_reducible assumption | with_reducible exact rfl | with_reducible exact trivial | (with_reducible (show (_ : Int) ≤ _); omega) | (with_reducible (show (_ : Int) < _); omega) | (with_reducible (show (_ : Nat) < _); omega) | (with_reducible (show (_ : Nat) ≤ _); omega) | with_reducible exact Or.inl rfl | with_reducible exact Or.inr rfl | with_reducible exact Or.inl trivial | with_reducible exact Or.inr trivial | (intro hz; exact absurd hz (by decide)) | (intro hz; exfalso; omega) | refine And.intro ?_ ?_ | intro _))
    all_goals first
      | (refine Qe (h _ fr.refl) ?_; unfold asS; rw [if_pos (by omega)])
      | (refine Qe (h _ fr.refl) ?_; unfold asS; rw [if_neg (by omega), if_pos (by assumption)] <;> omega)
      | (refine Qe (h _ fr.refl) ?_; unfold asS; rw [if_neg (by omega), if_neg (by assumption)])
def kpW (N : Int → Int) (r v w : Int) : Int → Int := fun s => if s = N (88 + 4 * r + 1) then v else if s = N (88 + 4 * r + 2) then w else -1
def kpS (N : Int → Int) (r v w : Int) : Int := if ¬ ((0 ≤ r ∧ r < N 4) ∧ (0 ≤ v ∧ v < N 2) ∧ 0 ≤ w ∧ w < N 2) then -1000000001 else if keptB N (kpW N r v w) r = true then 1 else 0
theorem kpS_f {N : Int → Int} {r v w : Int} (h : ¬ ((0 ≤ r ∧ r < N 4) ∧ (0 ≤ v ∧ v < N 2) ∧ 0 ≤ w ∧ w < N 2)) : kpS N r v w = -1000000001 := if_pos h
theorem kpS_t {N : Int → Int} {r v w : Int} (h : (0 ≤ r ∧ r < N 4) ∧ (0 ≤ v ∧ v < N 2) ∧ 0 ≤ w ∧ w < N 2) : kpS N r v w = if keptB N (kpW N r v w) r = true then 1 else 0 := if_neg (fun q => q h)
theorem kpW_b {N : Int → Int} {r v w : Int} (h : (0 ≤ r ∧ r < N 4) ∧ (0 ≤ v ∧ v < N 2) ∧ 0 ≤ w ∧ w < N 2) (s : Int) : -1 ≤ kpW N r v w s ∧ kpW N r v w s < N 2 := by
  unfold kpW
  split
  · omega
  · split <;> omega
theorem c_keeps {d : Nat} {I : mj_I} {S : mj_S} {Q : mj_Q} (hS : mk_Sh S) {N : Int → Int} (hN : Inv N) (hCb : Cb I S 21 N) (hd : 20 ≤ d) (r v w : Int) (h : ∀ I', fr scr I I' → Q (some (.inl (kpS N r v w))) I' S) : mj_C d 65 [.inr 20, .inl r, .inl v, .inl w] I S Q := by
  have hH := hN.1
  have hCH := hCb.1
  have hb : mB 21 := Or.inl rfl
  unfold InvH at hH
  unfold CbH at hCH
  by_cases hv : (0 ≤ r ∧ r < N 4) ∧ (0 ≤ v ∧ v < N 2) ∧ 0 ≤ w ∧ w < N 2
  · have hCR := hCb.2.2.2.1 r hv.1.1 hv.1.2
    have hR2 := hN.2.2.2.1 r hv.1.1 hv.1.2
    unfold CbR at hCR
    unfold InvR at hR2
    have e1 : ∀ J, fr (fun a => a = 21 + 14) I J → J (21 + 28 + r.toNat) 1 = N (88 + 4 * r + 1) := fun J hJ => by rw [hJ.f (by omega)]; exact hCR.2.1
    have e2 : ∀ J, fr (fun a => a = 21 + 14) I J → J (21 + 28 + r.toNat) 2 = N (88 + 4 * r + 2) := fun J hJ => by rw [hJ.f (by omega)]; exact hCR.2.2.1
    have f1 := e1 _ (fil_fr (n := 6) (x := -1))
    have f2 := e2 _ ((fil_fr (I := I) (a := 21 + 14) (n := 6) (x := -1)).up rfl (N (88 + 4 * r + 1)) v)
    refine x_C false [.inr (1, 0, 20, 0), .inl r, .inl v, .inl w] [] 70 hS ⟨xok_w hS, trivial, trivial, trivial, trivial⟩ ?_
    (repeat' (first | rw [f1] | rw [f2] | refine c_hasRule hS hb _ ?_ ?_ ?_ ?_ | refine c_hasPerson hS hb _ ?_ ?_ ?_ ?_ | refine c_nobody hS hb ?_ ?_ | refine ⟨(21, 0, 21 + 14, 6), ⟨rfl, ok_do hS hb⟩, ?_⟩ | with_reducible assumption | with_reducible exact rfl | with_reducible exact trivial | (with_reducible (show (_ : Int) ≤ _); omega) | (with_reducible (show (_ : Int) < _); omega) | (with_reducible (show (_ : Nat) < _); omega) | (with_reducible (show (_ : Nat) ≤ _); omega) | with_reducible exact Or.inl rfl | with_reducible exact Or.inr rfl | with_reducible exact Or.inl trivial | with_reducible exact Or.inr trivial | (intro hz; exact absurd hz (by decide)) | (intro hz; exfalso; omega) | refine And.intro ?_ ?_ | intro _))
    have hJ := ((fil_fr (I := I) (a := 21 + 14) (n := 6) (x := -1)).up rfl (N (88 + 4 * r + 1)) v).up rfl (N (88 + 4 * r + 2)) w
    have hJ2 := scr14 hb hJ
    have hW : ∀ s, 0 ≤ s → s < 6 → rd (up (up (mj_fl I (21 + 14) (-1) 6) (21 + 14) (N (88 + 4 * r + 1)) v) (21 + 14) (N (88 + 4 * r + 2)) w) (21 + 14) s = kpW N r v w s := by
      intro s h0 h6
      rw [rd_up (by omega) (by omega), rd_up (by omega) (by omega)]
      unfold ru kpW
      by_cases q2 : s = N (88 + 4 * r + 2)
      · rw [if_pos q2, if_neg (by omega), if_pos q2]
      · rw [if_neg q2]
        by_cases q1 : s = N (88 + 4 * r + 1)
        · rw [if_pos q1, if_pos q1]
        · rw [if_neg q1, if_neg q1, if_neg q2]
          exact fil_rd (by decide) h0 (by omega)
    have ek := keptB_c (W := rd (up (up (mj_fl I (21 + 14) (-1) 6) (21 + 14) (N (88 + 4 * r + 1)) v) (21 + 14) (N (88 + 4 * r + 2)) w) (21 + 14)) (W' := kpW N r v w) hN hv.1 (fun s h0 h1 => hW s h0 (by omega))
    refine c_isKept hS hb hN (hCb.fr hN.1 hJ2 (fun a q => bc_scr hb q)) _ (by omega) hv.1 (fun s h0 h6 => by rw [hW s h0 h6]; exact kpW_b hv s) (fun z => ?_) (fun z => ?_)
    · rw [ek] at z
      (repeat' (first | refine c_oneIf _ ?_ ?_ | with_reducible assumption | with_reducible exact rfl | with_reducible exact trivial | (with_reducible (show (_ : Int) ≤ _); omega) | (with_reducible (show (_ : Int) < _); omega) | (with_reducible (show (_ : Nat) < _); omega) | (with_reducible (show (_ : Nat) ≤ _); omega) | with_reducible exact Or.inl rfl | with_reducible exact Or.inr rfl | with_reducible exact Or.inl trivial | with_reducible exact Or.inr trivial | (intro hz; exact absurd hz (by decide)) | (intro hz; exfalso; omega) | refine And.intro ?_ ?_ | intro _))
      exact Qe (h _ hJ2) (by rw [kpS_t hv, if_pos z])
    · rw [ek] at z
      (repeat' (first | refine c_oneIf _ ?_ ?_ | with_reducible assumption | with_reducible exact rfl | with_reducible exact trivial | (with_reducible (show (_ : Int) ≤ _); omega) | (with_reducible (show (_ : Int) < _); omega) | (with_reducible (show (_ : Nat) < _); omega) | (with_reducible (show (_ : Nat) ≤ _); omega) | with_reducible exact Or.inl rfl | with_reducible exact Or.inr rfl | with_reducible exact Or.inl trivial | with_reducible exact Or.inr trivial | (intro hz; exact absurd hz (by decide)) | (intro hz; exfalso; omega) | refine And.intro ?_ ?_ | intro _))
      exact Qe (h _ hJ2) (by rw [kpS_t hv, if_neg (by rw [z]; decide)])
  · refine x_C false [.inr (1, 0, 20, 0), .inl r, .inl v, .inl w] [] 70 hS ⟨xok_w hS, trivial, trivial, trivial, trivial⟩ ?_
    (repeat' (first | refine c_hasRule hS hb _ ?_ ?_ ?_ ?_ | refine c_hasPerson hS hb _ ?_ ?_ ?_ ?_ | with_reducible assumption | with_reducible exact rfl | with_reducible exact trivial | (with_reducible (show (_ : Int) ≤ _); omega) | (with_reducible (show (_ : Int) < _); omega) | (with_reducible (show (_ : Nat) < _); omega) | (with_reducible (show (_ : Nat) ≤ _); omega) | with_reducible exact Or.inl rfl | with_reducible exact Or.inr rfl | with_reducible exact Or.inl trivial | with_reducible exact Or.inr trivial | (intro hz; exact absurd hz (by decide)) | (intro hz; exfalso; omega) | refine And.intro ?_ ?_ | intro _))
    all_goals exact Qe (h _ fr.refl) (kpS_f hv)
theorem m_keeps {d : Nat} {I : mj_I} {S : mj_S} {Q : mj_Q} (hS : mk_Sh S) (hN : Inv (rd I 151)) (hd : 20 ≤ d) (r v w : Int) (h : ∀ I', fr scr I I' → Q (some (.inl (kpS (rd I 151) r v w))) I' S) : mj_C d 232 [.inr 150, .inl r, .inl v, .inl w] I S Q := by
  have hH := hN.1
  unfold InvH at hH
  by_cases hv : (0 ≤ r ∧ r < rd I 151 4) ∧ (0 ≤ v ∧ v < rd I 151 2) ∧ 0 ≤ w ∧ w < rd I 151 2
  · have hR2 := hN.2.2.2.1 r hv.1.1 hv.1.2
    unfold InvR at hR2
    have loop : ∀ m k : Nat, k + m = 6 → ∀ (kk : Int) (J : mj_I), kk = k → fr (fun a => a = 155) I J → (∀ s : Int, 0 ≤ s → s < k → rd J 155 s = kpW (rd I 151) r v w s) →
        xW d 232 16 [some (.inr (13, 0, 150, 0)), some (.inl r), some (.inl v), some (.inl w), some (.inl kk)] [] J S Q := by
      intro m
      induction m with
      | zero =>
        intro k hk kk J h1 h2 h3
        have e151 : rd J 151 = rd I 151 := h2.r (by omega)
        have ek : keptB (rd I 151) (rd J 155) r = keptB (rd I 151) (kpW (rd I 151) r v w) r := keptB_c hN hv.1 (fun s h0 h1 => h3 s h0 (by omega))
        refine x_hd false [16] 40 ?_
        (repeat' (first | refine m_keptBy hS _ (by rw [e151]; exact hN) (by omega) (by rw [e151]; exact hv.1) (fun s h0 h6 => by rw [h3 s h0 (by omega), e151]; exact kpW_b hv s) (fun z => ?_) (fun z => ?_) | with_reducible assumption | with_reducible exact rfl | with_reducible exact trivial | (with_reducible (show (_ : Int) ≤ _); omega) | (with_reducible (show (_ : Int) < _); omega) | (with_reducible (show (_ : Nat) < _); omega) | (with_reducible (show (_ : Nat) ≤ _); omega) | with_reducible exact Or.inl rfl | with_reducible exact Or.inr rfl | with_reducible exact Or.inl trivial | with_reducible exact Or.inr trivial | (intro hz; exact absurd hz (by decide)) | (intro hz; exfalso; omega) | refine And.intro ?_ ?_ | intro _))
        · rename_i z _
          rw [e151, ek] at z
          exact Qe (h _ (scr155 h2)) (by rw [kpS_t hv, if_pos z])
        · rename_i z _
          rw [e151, ek] at z
          exact Qe (h _ (scr155 h2)) (by rw [kpS_t hv, if_neg (by rw [z]; decide)])
      | succ m ih =>
        intro k hk kk J h1 h2 h3
        have e151 : rd J 151 = rd I 151 := h2.r (by omega)
        refine x_hd false [16] 40 ?_
        (repeat' (first | rw [e151] | refine m_rule4 hS _ _ ?_ ?_ ?_ | with_reducible assumption | with_reducible exact rfl | with_reducible exact trivial | (with_reducible (show (_ : Int) ≤ _); omega) | (with_reducible (show (_ : Int) < _); omega) | (with_reducible (show (_ : Nat) < _); omega) | (with_reducible (show (_ : Nat) ≤ _); omega) | with_reducible exact Or.inl rfl | with_reducible exact Or.inr rfl | with_reducible exact Or.inl trivial | with_reducible exact Or.inr trivial | (intro hz; exact absurd hz (by decide)) | (intro hz; exfalso; omega) | refine And.intro ?_ ?_ | intro _))
        all_goals (refine ih (k + 1) (by omega) _ _ (by omega) (h2.up rfl _ _) (fun s h0 h6 => ?_); rw [rd_up (by omega) (by omega)]; by_cases e : s = kk)
        all_goals first
          | (rw [ru_n e, h3 s h0 (by omega)])
          | (subst e; rw [ru_s]; unfold kpW; first | rw [if_neg (by omega), if_neg (by omega)] | rw [if_neg (by omega), if_pos (by omega)] | rw [if_pos (by omega)])
    refine x_C false [.inr (13, 0, 150, 0), .inl r, .inl v, .inl w] [16] 70 hS ⟨xok_m hS, trivial, trivial, trivial, trivial⟩ ?_
    (repeat' (first | refine m_isRule hS _ ?_ ?_ ?_ ?_ | refine m_isPerson hS _ ?_ ?_ ?_ ?_ | with_reducible assumption | with_reducible exact rfl | with_reducible exact trivial | (with_reducible (show (_ : Int) ≤ _); omega) | (with_reducible (show (_ : Int) < _); omega) | (with_reducible (show (_ : Nat) < _); omega) | (with_reducible (show (_ : Nat) ≤ _); omega) | with_reducible exact Or.inl rfl | with_reducible exact Or.inr rfl | with_reducible exact Or.inl trivial | with_reducible exact Or.inr trivial | (intro hz; exact absurd hz (by decide)) | (intro hz; exfalso; omega) | refine And.intro ?_ ?_ | intro _))
    exact loop 6 0 (by omega) _ _ rfl fr.refl (fun s h0 h1 => by omega)
  · refine x_C false [.inr (13, 0, 150, 0), .inl r, .inl v, .inl w] [16] 70 hS ⟨xok_m hS, trivial, trivial, trivial, trivial⟩ ?_
    (repeat' (first | refine m_isRule hS _ ?_ ?_ ?_ ?_ | refine m_isPerson hS _ ?_ ?_ ?_ ?_ | with_reducible assumption | with_reducible exact rfl | with_reducible exact trivial | (with_reducible (show (_ : Int) ≤ _); omega) | (with_reducible (show (_ : Int) < _); omega) | (with_reducible (show (_ : Nat) < _); omega) | (with_reducible (show (_ : Nat) ≤ _); omega) | with_reducible exact Or.inl rfl | with_reducible exact Or.inr rfl | with_reducible exact Or.inl trivial | with_reducible exact Or.inr trivial | (intro hz; exact absurd hz (by decide)) | (intro hz; exfalso; omega) | refine And.intro ?_ ?_ | intro _))
    all_goals exact Qe (h _ fr.refl) (kpS_f hv)
theorem P_keeps {L : Nat} {xs : Nat → Int32} {n : Nat} (r v w : Int) : Pair L xs n 65 232 [.inl r, .inl v, .inl w] :=
  pair_ro (fun N _ => kpS N r v w) (fun _ _ _ => rfl) (fun I S Q hR h => c_keeps hR.1 hR.2.2.1.1 hR.2.2.1.2 (by decide) r v w h) (fun I S Q hR h => m_keeps hR.1 hR.2.2.1.1 (by decide) r v w h)
