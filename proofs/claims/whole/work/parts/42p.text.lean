/-! text -/
def txX (x : Nat) (a : Nat) : Prop := (21 ≤ a ∧ a ≤ 60) ∨ a = 115 ∨ a = 150 ∨ a = 151 ∨ scr a ∨ x ≤ a
theorem Rel_txt {L : Nat} {xs : Nat → Int32} {n : Nat} {I J : mj_I} {S T : mj_S} (hn : n < 64) (h : Rel L xs n I S) (hf : fr (txX (mj_nx S)) I J) (h150 : ∀ k, k ≠ 4 → (k < 8 ∨ 23 ≤ k) → J 150 k = I 150 k) (h8 : J 150 8 = 0) (h115 : J 115 1 = 0) (hch : (J 150 4 = I 150 4 ∧ rd J 151 = rd I 151) ∨ J 150 4 = I 150 4 + 1) (hTS : mk_Sh T) (hTX : RX T) (hTo : ∀ a, a < 20 → T.1 a = S.1 a ∧ T.2.1 a = S.2.1 a) (hA2 : RA J T) (hI2 : I 20 2 = 1 → Cb J T 61 (rd I 152)) (hnx : mj_nx T ≤ mj_nx S + 2 ∧ mj_sl T ≤ mj_sl S + 100) : Rel L xs (n + 1) J T := by
  obtain ⟨hS, hO, hA, hI, hTp, hW, hSh, hSl, hM, hC, hB⟩ := h
  have hnS := hS.1
  have e : ∀ {a : Nat}, ¬ txX (mj_nx S) a → J a = I a := fun q => hf _ q
  have er : ∀ {a : Nat}, ¬ txX (mj_nx S) a → rd J a = rd I a := fun q => hf.r q
  refine ⟨hTS, ⟨fun a ha => ?_, ⟨fun a ha => ⟨?_, ?_⟩, hTX⟩, ?_⟩, hA2, ⟨?_, ?_, fun q => ⟨?_, ?_⟩⟩, ?_, ?_, ?_, ?_, ?_, ?_, ?_⟩
  · rw [e (by unfold txX scr; omega)]; exact hO.1 a ha
  · rw [(hTo a ha).1]; exact (hO.2.1.1 a ha).1
  · rw [(hTo a ha).2]; exact (hO.2.1.1 a ha).2
  · rw [er (a := 157) (by unfold txX scr; omega), er (a := 158) (by unfold txX scr; omega)]; exact hO.2.2
  · rw [e (a := 20) (by unfold txX scr; omega)]; exact hI.1
  · rw [e (a := 20) (by unfold txX scr; omega), h150 3 (by decide) (by omega)]; exact hI.2.1
  · rw [e (a := 20) (by unfold txX scr; omega)] at q
    rw [er (a := 152) (by unfold txX scr; omega)]
    exact (hI.2.2 q).1
  · rw [e (a := 20) (by unfold txX scr; omega)] at q
    rw [er (a := 152) (by unfold txX scr; omega)]
    exact hI2 q
  · refine ⟨by rw [h115, h8], by rw [h8]; omega, fun k k0 k1 => ?_⟩
    rw [h8] at k1
    omega
  · exact RW_s hW (by rw [e (a := 20) (by unfold txX scr; omega)]) (h150 47 (by decide) (by omega)) (er (by unfold txX scr; omega)) (er (by unfold txX scr; omega))
  · exact RSh_s hSh (fun a a0 a1 => e (by unfold txX scr; omega)) (er (by unfold txX scr; omega)) (er (by unfold txX scr; omega)) (er (by unfold txX scr; omega))
  · exact RSl_s hSl (fun a a0 a1 => e (by unfold txX scr; omega)) (er (by unfold txX scr; omega)) (er (by unfold txX scr; omega)) (er (by unfold txX scr; omega)) (er (by unfold txX scr; omega))
  · unfold RM at hM ⊢
    rw [er (a := 154) (by unfold txX scr; omega)]
    exact hM
  · intro q
    have hb27 := hB.1
    rw [h150 27 (by decide) (by omega)] at q
    rcases hch with hch | hch
    · rw [hch.1] at q
      rw [hch.2, h150 26 (by decide) (by omega)]
      exact (hC q).fr (h150 28 (by decide) (by omega)) (h150 31 (by decide) (by omega)) (h150 32 (by decide) (by omega)) (er (by unfold txX scr; omega)) (er (by unfold txX scr; omega)) (er (by unfold txX scr; omega)) (er (by unfold txX scr; omega))
    · exfalso
      omega
  · unfold RBd at hB ⊢
    rw [h150 27 (by decide) (by omega)]
    rcases hch with hch | hch
    · rw [hch.1]; omega
    · rw [hch]; omega
/-- what the class's text leaves -/
def cTX (I J : mj_I) (S T : mj_S) (v : Int) : Prop := J 115 1 = 0 ∧ (key1 (rd I 116) (I 115 1) < 0 ∧ v = -100 - nxA (rd I 116) (I 115 1) 0 ∧ T = S ∧ fr (fun a => a = 115 ∨ a = 117) I J ∨ 0 ≤ key1 (rd I 116) (I 115 1) ∧ ∃ r s', PZ (rd I 116) (I 115 1) (key1 (rd I 116) (I 115 1)) 1960 0 0 0 (st1 (rd I 116) (I 115 1)) r s' ∧ (¬ (r = true ∧ s'.1.1 = 0) ∧ v = -100 - s'.1.2.1 ∧ T = S ∧ fr (fun a => a = 115 ∨ a = 117) I J ∨ (r = true ∧ s'.1.1 = 0) ∧ (14 ≤ I 21 7 ∧ v = -1000000003 ∧ T = S ∧ fr (fun a => a = 115 ∨ a = 117) I J ∨ ¬ 14 ≤ I 21 7 ∧ v = I 21 7 ∧ sT S T (I 21 7).toNat s'.2.1.length ∧ fr (fun a => a = 21 ∨ a = 26 ∨ a = 115 ∨ a = 117 ∨ mj_nx S ≤ a) I J ∧ (∀ k, k ≠ 7 → J 21 k = I 21 k) ∧ J 21 7 = I 21 7 + 1 ∧ rd J 26 = ru (rd I 26) (key1 (rd I 116) (I 115 1)) (I 21 7) ∧ J (mj_nx S) 0 = key1 (rd I 116) (I 115 1) ∧ J (mj_nx S) 1 = s'.2.2 ∧ ∀ j : Int, 0 ≤ j → j < s'.2.1.length → rd J (mj_nx S + 1) j = s'.2.1.getD j.toNat 0)))
theorem tSt_Sh {S : mj_S} {sz : Int} (hS : mk_Sh S) : mk_Sh (tSt S sz) := by
  have hn := hS.1
  refine ⟨by show 181 ≤ mj_nx S + 1 + 1; omega, fun a a0 a1 => ⟨?_, fun q1 q2 k => ?_⟩⟩
  · show (mj_nw (mj_nw S 11 3) 20 sz.toNat).2.1 a = _
    rw [nw_o (by rw [nw_nx]; omega), nw_o (by omega)]
    exact (hS.2 a a0 a1).1
  · show (if a = mj_nx S ∧ k = 2 then mj_nx S + 1 else (mj_nw (mj_nw S 11 3) 20 sz.toNat).1 a k) = _
    rw [if_neg (by omega), nw_r (by rw [nw_nx]; omega), nw_r (by omega)]
    exact (hS.2 a a0 a1).2 q1 q2 k
theorem tI_o {I : mj_I} {x : Nat} {key pc sz : Int} {a : Nat} (h : a < x) : tI I x key pc sz a = I a := by
  funext j
  unfold tI
  rw [mj_up_n (by omega), mj_up_n (by omega)]
  show (if a = x + 1 ∧ _ then _ else mj_z (mj_z I x) (x + 1) a j) = _
  rw [if_neg (by omega), z_o (by omega), z_o (by omega)]
theorem tI_c {I : mj_I} {x : Nat} {key pc sz : Int} (hx : 117 < x) {j : Int} (h0 : 0 ≤ j) (h1 : j < sz) (h2 : sz ≤ 95) : rd (tI I x key pc sz) (x + 1) j = rd I 117 j := by
  rw [rd_in h0 (by omega), rd_in h0 (by omega)]
  unfold tI
  rw [mj_up_n (by omega), mj_up_n (by omega)]
  show (if x + 1 = x + 1 ∧ 0 ≤ j.toNat ∧ j.toNat < 0 + sz.toNat then mj_z (mj_z I x) (x + 1) 117 (0 + (j.toNat - 0)) else _) = _
  rw [if_pos (by omega), z_o (by omega), z_o (by omega), show 0 + (j.toNat - 0) = j.toNat by omega]
theorem c_text {d : Nat} {I : mj_I} {S : mj_S} {Q : mj_Q} (hS : mk_Sh S) {Lx : Nat} {xs : Nat → Int32} (hO1 : ∀ a, a < 20 → I a = mj_I0 xs a) (hO2 : ∀ a, a < 20 → S.1 a = (mj_S0 Lx).1 a ∧ S.2.1 a = (mj_S0 Lx).2.1 a) (hL2 : 0 ≤ I 115 1 ∧ I 115 1 ≤ 96) (hTb : ∀ j, 0 ≤ j → j < I 115 1 → 0 ≤ rd I 116 j ∧ rd I 116 j ≤ 255) (h7 : 0 ≤ I 21 7 ∧ I 21 7 ≤ 14) (hd : 110 < d)
    (h : ∀ v J T, cTX I J S T v → Q (some (.inl v)) J T) : mj_C d 69 [.inr 20] I S Q := by
  have hnS := hS.1
  have t20 : mj_tg S 20 = 0 := hS.t 20 (t := 0) (n := 11) (by decide +kernel)
  have t115 : mj_tg S 115 = 8 := hS.t 115 (t := 8) (n := 9) (by decide +kernel)
  have t21 : mj_tg S 21 = 1 := hS.t 21 (t := 1) (n := 18) (by decide +kernel)
  have r5 : mj_rf S 20 5 = 115 := hS.r 20 5 (by decide +kernel)
  have r0 : mj_rf S 20 0 = 21 := hS.r 20 0 (by decide +kernel)
  have kb := keyO_b (T := rd I 116) (k := nxK (rd I 116) (I 115 1) 0 0) (a := nxA (rd I 116) (I 115 1) 0) (b := nxB (rd I 116) (I 115 1) 0)
  have kk : key1 (rd I 116) (I 115 1) ≤ 2 := kb.2.1
  have w1 := (wf1 (T := rd I 116) hL2.1).1
  have w1' : 0 ≤ nxA (rd I 116) (I 115 1) 0 ∧ nxA (rd I 116) (I 115 1) 0 ≤ nxB (rd I 116) (I 115 1) 0 ∧ nxB (rd I 116) (I 115 1) 0 ≤ I 115 1 := w1
  refine x_C false [.inr (1, 0, 20, 0)] [25] 40 hS ⟨xok_w hS, trivial⟩ ?_
  (repeat' (first | refine c_findFault hS hO1 hO2 hL2 hTb rfl rfl (by omega) (fun k0 J j1 j2 => ?_) (fun k0 r s' J p j1 j2 j3 j4 => have hz := PZ_ok ⟨k0, kb.2.1⟩ _ _ _ _ _ _ _ p (wf2 hL2.1 k0).1; have hz1 := hz.1.1; have hfv : (if r = true ∧ s'.1.1 = 0 then -1 else s'.1.2.1) ≤ 96 := (by split <;> omega); ?_) | with_reducible assumption | with_reducible exact rfl | with_reducible exact trivial | (with_reducible (show (_ : Int) ≤ _); omega) | (with_reducible (show (_ : Int) < _); omega) | (with_reducible (show (_ : Nat) < _); omega) | (with_reducible (show (_ : Nat) ≤ _); omega) | with_reducible exact Or.inl rfl | with_reducible exact Or.inr rfl | with_reducible exact Or.inl trivial | with_reducible exact Or.inr trivial | (intro hz; exact absurd hz (by decide)) | (intro hz; exfalso; omega) | refine And.intro ?_ ?_ | intro _))
  · exact h _ _ _ ⟨mj_up_s, Or.inl ⟨k0, rfl, rfl, j1.mu (Or.inl rfl) _ _⟩⟩
  · rename_i z1 z2
    have hg : r = true ∧ s'.1.1 = 0 := by
      split at z1
      · assumption
      · omega
    have hz2 := wf2 (T := rd I 116) (L := I 115 1) hL2.1 k0
    have hz3 := (hz.2.2 hg.1).2.1
    have hz4 : (0 : Int) ≤ s'.2.1.length ∧ (s'.2.1.length : Int) - 0 ≤ s'.1.2.1 - (st1 (rd I 116) (I 115 1)).1.2.1 := hz3
    have e21 : J 21 = I 21 := j1 21 (by omega)
    have e7 : mj_up J 115 1 0 21 7 = I 21 7 := by rw [mu_f (by omega), e21]
    rw [e7] at z2
    obtain ⟨c1, c2, c3, c4, c5, c6⟩ := j4
    have i5 : mj_up J 115 1 0 115 5 = key1 (rd I 116) (I 115 1) := by rw [mu_f (by omega)]; exact j3
    have i6 : mj_up J 115 1 0 115 6 = s'.2.2 := by rw [mu_f (by omega)]; exact c4
    have i8 : mj_up J 115 1 0 115 8 = s'.2.1.length := by rw [mu_f (by omega)]; exact c5
    have hST := tSt_Sh (sz := (s'.2.1.length : Int)) hS
    have x0 : tI (mj_up J 115 1 0) (mj_nx S) (key1 (rd I 116) (I 115 1)) s'.2.2 s'.2.1.length (mj_nx S) 0 = key1 (rd I 116) (I 115 1) := by
      unfold tI
      rw [mj_up_n (by omega), mj_up_s]
    have x7 : tI (mj_up J 115 1 0) (mj_nx S) (key1 (rd I 116) (I 115 1)) s'.2.2 s'.2.1.length 21 7 = (((I 21 7).toNat : Nat) : Int) := by
      rw [tI_o (by omega), e7]
      omega
    have xt : mj_tg (tSt S (s'.2.1.length : Int)) (mj_nx S) = 11 := by
      show mj_tg (mj_nw (mj_nw S 11 3) 20 _) (mj_nx S) = 11
      rw [nw_tg (by rw [nw_nx]; omega)]
      exact nw_tgs
    have x21 : mj_tg (tSt S (s'.2.1.length : Int)) 21 = 1 := hST.t 21 (t := 1) (n := 18) (by decide +kernel)
    have x20 : mj_tg (tSt S (s'.2.1.length : Int)) 20 = 0 := hST.t 20 (t := 0) (n := 11) (by decide +kernel)
    have xr : mj_rf (mj_ur (tSt S (s'.2.1.length : Int)) 25 (I 21 7).toNat (mj_nx S)) 20 0 = 21 := by
      show (if 20 = 25 ∧ 0 = (I 21 7).toNat then mj_nx S else mj_rf (tSt S (s'.2.1.length : Int)) 20 0) = 21
      rw [if_neg (fun q => absurd q.1 (by decide))]
      exact hST.r 20 0 (by decide +kernel)
    have nx2 : mj_nx (tSt S (s'.2.1.length : Int)) = mj_nx S + 2 := rfl
    have hG : ∀ J', J' = mj_up (up (tI (mj_up J 115 1 0) (mj_nx S) (key1 (rd I 116) (I 115 1)) s'.2.2 s'.2.1.length) 26 (key1 (rd I 116) (I 115 1)) (((I 21 7).toNat : Nat) : Int)) 21 7 ((((I 21 7).toNat : Nat) : Int) + 1) → Q (some (.inl (I 21 7))) J' (mj_ur (tSt S (s'.2.1.length : Int)) 25 (I 21 7).toNat (mj_nx S)) := by
      intro J' hJ'
      have et : (((I 21 7).toNat : Nat) : Int) = I 21 7 := by omega
      rw [et] at hJ'
      have lo : ∀ a, a < mj_nx S → ¬ a = 21 → ¬ a = 26 → J' a = mj_up J 115 1 0 a := fun a a0 a1 a2 => by rw [hJ', mu_o a1, up_o a2, tI_o a0]
      refine h _ _ _ ⟨?_, Or.inr ⟨k0, r, s', p, Or.inr ⟨hg, Or.inr ⟨by omega, rfl, sT_ok hnS, fun a ha => ?_, fun k hk => ?_, ?_, ?_, ?_, ?_, fun j q0 q1 => ?_⟩⟩⟩⟩
      · rw [lo 115 (by omega) (by omega) (by omega), mj_up_s]
      · rw [lo a (by omega) (by omega) (by omega), mu_o (by omega), j1 a (by omega)]
      · rw [hJ', mu_f (by omega), up_f (by omega), tI_o (by omega), mu_f (by omega), e21]
      · rw [hJ', mj_up_s]
      · rw [hJ', rd_mu (by omega), rd_up (by omega) (by omega)]
        congr 1
        funext j
        unfold rd
        rw [tI_o (by omega), mu_o (by omega), j1 26 (by omega)]
      · rw [hJ', mu_f (by omega), up_f (by omega)]; exact x0
      · rw [hJ', mu_f (by omega), up_f (by omega)]
        unfold tI
        rw [mj_up_s]
      · rw [hJ', rd_mu (by omega), rd_uo (by omega), tI_c (by omega) q0 q1 (by omega), rd_mu (by omega)]
        have := c6 j.toNat (by omega)
        rw [show ((j.toNat : Nat) : Int) = j by omega] at this
        exact this
    have go : ∀ w : Int, xW d 69 25 [some (.inr (1, 0, 20, 0)), some (.inl w)] [.inr (9, 0, 115, 0), .inr (2, 21, 21, 0)] (mj_up J 115 1 0) S Q := by
      intro w
      refine ⟨0, rfl, fun _ _ _ => ?_⟩
      refine mj_W_of 40 ?_
      refine ⟨t115, by omega, c_makeText hS i5 i6 i8 (by omega) (by omega) ?_⟩
      refine ⟨x21, by omega, c_addText hST ⟨by omega, by omega⟩ xt x0 ⟨k0, kb.2.1⟩ x7 (by omega) ?_⟩
      have ew : mj_wr ((((I 21 7).toNat : Nat) : Int) + 1 - 1) = I 21 7 := by rw [mj_wr_s (by omega) (by omega)]; omega
      have eq : mj_wr ((mj_up (up (tI (mj_up J 115 1 0) (mj_nx S) (key1 (rd I 116) (I 115 1)) s'.2.2 s'.2.1.length) 26 (key1 (rd I 116) (I 115 1)) (((I 21 7).toNat : Nat) : Int)) 21 7 ((((I 21 7).toNat : Nat) : Int) + 1)) (mj_rf (mj_ur (tSt S (s'.2.1.length : Int)) 25 (I 21 7).toNat (mj_nx S)) 20 0) 7 - 1) = I 21 7 := by rw [xr, mj_up_s, ew]
      refine ⟨x20, (by rw [xr]; exact x21 : mj_tg (mj_ur (tSt S (s'.2.1.length : Int)) 25 (I 21 7).toNat (mj_nx S)) (mj_rf (mj_ur (tSt S (s'.2.1.length : Int)) 25 (I 21 7).toNat (mj_nx S)) 20 0) = 1), ?_⟩
      show Q (some (.inl (mj_wr ((mj_up (up (tI (mj_up J 115 1 0) (mj_nx S) (key1 (rd I 116) (I 115 1)) s'.2.2 s'.2.1.length) 26 (key1 (rd I 116) (I 115 1)) (((I 21 7).toNat : Nat) : Int)) 21 7 ((((I 21 7).toNat : Nat) : Int) + 1)) (mj_rf (mj_ur (tSt S (s'.2.1.length : Int)) 25 (I 21 7).toNat (mj_nx S)) 20 0) 7 - 1)))) (mj_up (up (tI (mj_up J 115 1 0) (mj_nx S) (key1 (rd I 116) (I 115 1)) s'.2.2 s'.2.1.length) 26 (key1 (rd I 116) (I 115 1)) (((I 21 7).toNat : Nat) : Int)) 21 7 ((((I 21 7).toNat : Nat) : Int) + 1)) (mj_ur (tSt S (s'.2.1.length : Int)) 25 (I 21 7).toNat (mj_nx S))
      rw [eq]
      exact hG _ rfl
    exact go _
  · rename_i z1 z2
    have hg : r = true ∧ s'.1.1 = 0 := by
      split at z1
      · assumption
      · omega
    rw [mu_f (by omega), j1.f (by omega)] at z2
    exact h _ _ _ ⟨mj_up_s, Or.inr ⟨k0, r, s', p, Or.inr ⟨hg, Or.inl ⟨by omega, rfl, rfl, j1.mu (Or.inl rfl) _ _⟩⟩⟩⟩
  · rename_i z1
    have hg : ¬ (r = true ∧ s'.1.1 = 0) := fun q => by rw [if_pos q] at z1; omega
    rw [if_neg hg]
    exact h _ _ _ ⟨mj_up_s, Or.inr ⟨k0, r, s', p, Or.inl ⟨hg, rfl, rfl, j1.mu (Or.inl rfl) _ _⟩⟩⟩
/-- what the reference's text leaves -/
def mX (a : Nat) : Prop := a = 150 ∨ a = 151 ∨ a = 159 ∨ a = 160 ∨ a = 161
theorem m_text {d : Nat} {I : mj_I} {S : mj_S} {Q : mj_Q} (hS : mk_Sh S) {T : Int → Int} {L : Int} (hT : ∀ j, 0 ≤ j → j < L → rd I 156 j = T j) (hL : I 150 8 = L) (hL2 : 0 ≤ L ∧ L ≤ 96) (hkk : ∀ k, 0 ≤ k → k < 11 → rd I 157 k = mj_nth 0 [109, 97, 121, 99, 111, 115, 116, 119, 97, 105, 116] k.toNat) (hka : rd I 158 0 = 0 ∧ rd I 158 1 = 3 ∧ rd I 158 2 = 7 ∧ rd I 158 3 = 11) (h5 : 0 ≤ rd I 151 5 ∧ rd I 151 5 ≤ 14) (h4 : 0 ≤ I 150 4 ∧ I 150 4 ≤ 100000) (hd : 10 < d)
    (h0 : key1 T L < 0 → ∀ J, fr mX I J → rd J 151 = rd I 151 → (∀ j, (j < 8 ∨ 23 ≤ j) → J 150 j = I 150 j) → J 150 8 = 0 → Q (some (.inl (-100 - nxA T L 0))) J S)
    (h1 : 0 ≤ key1 T L → ∃ r s', PZ T L (key1 T L) 1960 0 0 0 (st1 T L) r s' ∧ (¬ (r = true ∧ s'.1.1 = 0) → ∀ J, fr mX I J → rd J 151 = rd I 151 → (∀ j, (j < 8 ∨ 23 ≤ j) → J 150 j = I 150 j) → J 150 8 = 0 → Q (some (.inl (-100 - s'.1.2.1))) J S) ∧ ((r = true ∧ s'.1.1 = 0) → (14 ≤ rd I 151 5 → ∀ J, fr mX I J → rd J 151 = rd I 151 → (∀ j, (j < 8 ∨ 23 ≤ j) → J 150 j = I 150 j) → J 150 8 = 0 → Q (some (.inl (-1000000003))) J S) ∧ (¬ 14 ≤ rd I 151 5 → ∀ J, fr mX I J → tR (rd I 151) (rd J 151) (key1 T L) s'.2.2 s'.2.1 → (∀ j, j ≠ 4 → (j < 8 ∨ 23 ≤ j) → J 150 j = I 150 j) → J 150 4 = I 150 4 + 1 → J 150 8 = 0 → Q (some (.inl (rd I 151 5))) J S))) : mj_C d 235 [.inr 150] I S Q := by
  have kb := keyO_b (T := T) (k := nxK T L 0 0) (a := nxA T L 0) (b := nxB T L 0)
  have w1 : 0 ≤ nxA T L 0 ∧ nxA T L 0 ≤ nxB T L 0 ∧ nxB T L 0 ≤ L := (wf1 (T := T) hL2.1).1
  generalize hI1 : mj_up (mj_up I 150 9 0) 150 13 (-1) = I1
  have f1 : fr (fun a => a = 150) I I1 := by rw [← hI1]; exact ((fr.refl (X := fun a => a = 150)).mu rfl _ _).mu rfl _ _
  have g1 : ∀ j, (j < 9 ∨ 13 < j) → I1 150 j = I 150 j := fun j hj => by rw [← hI1]; simp (disch := omega) only [rd_up, rd_uo, rd_mu, up_f, mu_f, mj_up_s, ru_s, ru_n]
  have i9 : I1 150 9 = 0 := by rw [← hI1]; simp (disch := omega) only [rd_up, rd_uo, rd_mu, up_f, mu_f, mj_up_s, ru_s, ru_n]
  have i13 : I1 150 13 = -1 := by rw [← hI1]; simp (disch := omega) only [rd_up, rd_uo, rd_mu, up_f, mu_f, mj_up_s, ru_s, ru_n]
  have tT : ∀ J, fr (fun a => a = 150) I J → ∀ j, 0 ≤ j → j < L → rd J 156 j = T j := fun J hJ j j0 j1 => by rw [hJ.r (by omega)]; exact hT j j0 j1
  have bad : ∀ (Jx : mj_I) (a : Int), fr mX I Jx → rd Jx 151 = rd I 151 → (∀ j, (j < 8 ∨ 23 ≤ j) → Jx 150 j = I 150 j) → Jx 150 10 = a → (0 ≤ a ∧ a ≤ 96) → (∀ J, fr mX I J → rd J 151 = rd I 151 → (∀ j, (j < 8 ∨ 23 ≤ j) → J 150 j = I 150 j) → J 150 8 = 0 → Q (some (.inl (-100 - a))) J S) → xW d 235 18 [some (.inr (13, 0, 150, 0)), some (.inl 0), none, none] [] Jx S Q := by
    intro Jx a b1 b2 b3 b4 b5 b6
    refine x_hd false [] 30 ?_
    (repeat' (first | rw [mu_f (by omega)] | rw [b4] | with_reducible assumption | with_reducible exact rfl | with_reducible exact trivial | (with_reducible (show (_ : Int) ≤ _); omega) | (with_reducible (show (_ : Int) < _); omega) | (with_reducible (show (_ : Nat) < _); omega) | (with_reducible (show (_ : Nat) ≤ _); omega) | with_reducible exact Or.inl rfl | with_reducible exact Or.inr rfl | with_reducible exact Or.inl trivial | with_reducible exact Or.inr trivial | (intro hz; exact absurd hz (by decide)) | (intro hz; exfalso; omega) | refine And.intro ?_ ?_ | intro _))
    exact b6 _ (b1.mu (Or.inl rfl) _ _) (by rw [rd_mu (by omega)]; exact b2) (fun j hj => by rw [mu_f (by omega)]; exact b3 j hj) mj_up_s
  have good : ∀ (Jx : mj_I) (key pc : Int) (c : List Int), (0 ≤ key ∧ key ≤ 2) → (c.length : Int) ≤ 95 → fr mX I Jx → rd Jx 151 = rd I 151 → (∀ j, (j < 8 ∨ 23 ≤ j) → Jx 150 j = I 150 j) → Jx 150 14 = key → Jx 150 18 = c.length → Jx 150 19 = pc → (∀ j : Int, 0 ≤ j → j < c.length → rd Jx 159 j = lf key c j) → (14 ≤ rd I 151 5 → ∀ J, fr mX I J → rd J 151 = rd I 151 → (∀ j, (j < 8 ∨ 23 ≤ j) → J 150 j = I 150 j) → J 150 8 = 0 → Q (some (.inl (-1000000003))) J S) → (¬ 14 ≤ rd I 151 5 → ∀ J, fr mX I J → tR (rd I 151) (rd J 151) key pc c → (∀ j, j ≠ 4 → (j < 8 ∨ 23 ≤ j) → J 150 j = I 150 j) → J 150 4 = I 150 4 + 1 → J 150 8 = 0 → Q (some (.inl (rd I 151 5))) J S) → xW d 235 18 [some (.inr (13, 0, 150, 0)), some (.inl 1), none, none] [] Jx S Q := by
    intro Jx key pc c hk hl b1 b2 b3 b14 b18 b19 bc hF hG
    have loop : ∀ (m k : Nat), k + m = c.length → ¬ 14 ≤ rd I 151 5 → ∀ A : mj_I, fr mX I A → (∀ j, (j < 8 ∨ 23 ≤ j) → A 150 j = I 150 j) → A 150 8 = 0 → A 150 18 = c.length → (∀ j : Int, 0 ≤ j → j < c.length → rd A 159 j = lf key c j) → rd A 151 (238 + 2 * rd I 151 5) = 1000 * key + c.length → rd A 151 (238 + 2 * rd I 151 5 + 1) = pc → (∀ j : Int, 0 ≤ j → j < k → rd A 151 (266 + 96 * rd I 151 5 + j) = lf key c j) → (∀ q, q ≠ 238 + 2 * rd I 151 5 → q ≠ 238 + 2 * rd I 151 5 + 1 → ¬ (266 + 96 * rd I 151 5 ≤ q ∧ q < 266 + 96 * rd I 151 5 + k) → rd A 151 q = rd I 151 q) → xW d 235 70 [some (.inr (13, 0, 150, 0)), some (.inl 1), some (.inl (rd I 151 5)), some (.inl k)] [] A S Q := by
      intro m
      induction m with
      | zero =>
        intro k hk0 h14 A a1 a2 a8 a18 ac e0 e1 e2 e3
        have a5 : rd A 151 5 = rd I 151 5 := e3 5 (by omega) (by omega) (by omega)
        have a4 := a2 4 (by omega)
        refine x_hd false [70] 60 ?_
        (repeat' (first | rw [a18] | rw [a5] | rw [up_f (by omega)] | rw [a4] | with_reducible assumption | with_reducible exact rfl | with_reducible exact trivial | (with_reducible (show (_ : Int) ≤ _); omega) | (with_reducible (show (_ : Int) < _); omega) | (with_reducible (show (_ : Nat) < _); omega) | (with_reducible (show (_ : Nat) ≤ _); omega) | with_reducible exact Or.inl rfl | with_reducible exact Or.inr rfl | with_reducible exact Or.inl trivial | with_reducible exact Or.inr trivial | (intro hz; exact absurd hz (by decide)) | (intro hz; exfalso; omega) | refine And.intro ?_ ?_ | intro _))
        have er : rd (mj_up (up A 151 5 (rd I 151 5 + 1)) 150 4 (I 150 4 + 1)) 151 = ru (rd A 151) 5 (rd I 151 5 + 1) := by simp (disch := omega) only [rd_up, rd_uo, rd_mu, up_f, mu_f, mj_up_s, ru_s, ru_n]
        exact hG h14 (mj_up (up A 151 5 (rd I 151 5 + 1)) 150 4 (I 150 4 + 1)) ((a1.up (Or.inr (Or.inl rfl)) _ _).mu (Or.inl rfl) _ _) ⟨by rw [er, ru_s], by rw [er, ru_n (by omega)]; exact e0, by rw [er, ru_n (by omega)]; exact e1, fun j j0 j1 => by rw [er, ru_n (by omega)]; exact e2 j j0 (by omega), fun q q5 q1 q2 q3 => by rw [er, ru_n q5]; exact e3 q q1 q2 (by omega)⟩ (fun j j4 hj => by rw [mu_f (by omega), up_f (by omega)]; exact a2 j hj) mj_up_s (by rw [mu_f (by omega), up_f (by omega)]; exact a8)
      | succ m ih =>
        intro k hk0 h14 A a1 a2 a8 a18 ac e0 e1 e2 e3
        have ack := ac k (by omega) (by omega)
        refine x_hd false [70] 60 ?_
        (repeat' (first | rw [a18] | rw [ack] | with_reducible assumption | with_reducible exact rfl | with_reducible exact trivial | (with_reducible (show (_ : Int) ≤ _); omega) | (with_reducible (show (_ : Int) < _); omega) | (with_reducible (show (_ : Nat) < _); omega) | (with_reducible (show (_ : Nat) ≤ _); omega) | with_reducible exact Or.inl rfl | with_reducible exact Or.inr rfl | with_reducible exact Or.inl trivial | with_reducible exact Or.inr trivial | (intro hz; exact absurd hz (by decide)) | (intro hz; exfalso; omega) | refine And.intro ?_ ?_ | intro _))
        have er : rd (up A 151 (266 + 96 * rd I 151 5 + (k : Int)) (lf key c k)) 151 = ru (rd A 151) (266 + 96 * rd I 151 5 + (k : Int)) (lf key c k) := rd_up (by omega) (by omega)
        have k5 := ih (k + 1) (by omega) h14 (up A 151 (266 + 96 * rd I 151 5 + (k : Int)) (lf key c k)) (a1.up (Or.inr (Or.inl rfl)) _ _) (fun j hj => by rw [up_f (by omega)]; exact a2 j hj) (by rw [up_f (by omega)]; exact a8) (by rw [up_f (by omega)]; exact a18) (fun j j0 j1 => by rw [rd_uo (by omega)]; exact ac j j0 j1) (by rw [er, ru_n (by omega)]; exact e0) (by rw [er, ru_n (by omega)]; exact e1) (fun j j0 j1 => by
          by_cases e : j = k
          · rw [er, e, ru_s]
          · rw [er, ru_n (by omega)]; exact e2 j j0 (by omega)) (fun q q1 q2 q3 => by rw [er, ru_n (by omega)]; exact e3 q q1 q2 (by omega))
        rw [show ((k + 1 : Nat) : Int) = (k : Int) + 1 by omega] at k5
        exact k5
    refine x_hd false [70] 80 ?_
    have b151 : ∀ j : Int, rd (mj_up Jx 150 8 0) 151 j = rd I 151 j := fun j => by rw [rd_mu (by omega), b2]
    have u14 : ∀ x : Int, mj_up Jx 150 8 x 150 14 = key := fun x => by rw [mu_f (by omega)]; exact b14
    have u18 : ∀ x : Int, mj_up Jx 150 8 x 150 18 = c.length := fun x => by rw [mu_f (by omega)]; exact b18
    have u19 : ∀ x : Int, mj_up Jx 150 8 x 150 19 = pc := fun x => by rw [mu_f (by omega)]; exact b19
    (repeat' (first | rw [b151] | rw [u14] | rw [u18] | rw [up_f (by omega)] | rw [u19] | with_reducible assumption | with_reducible exact rfl | with_reducible exact trivial | (with_reducible (show (_ : Int) ≤ _); omega) | (with_reducible (show (_ : Int) < _); omega) | (with_reducible (show (_ : Nat) < _); omega) | (with_reducible (show (_ : Nat) ≤ _); omega) | with_reducible exact Or.inl rfl | with_reducible exact Or.inr rfl | with_reducible exact Or.inl trivial | with_reducible exact Or.inr trivial | (intro hz; exact absurd hz (by decide)) | (intro hz; exfalso; omega) | refine And.intro ?_ ?_ | intro _))
    · rename_i z1 z2
      have er : rd (up (up (mj_up Jx 150 8 0) 151 (238 + 2 * rd I 151 5) (1000 * key + (c.length : Int))) 151 (238 + 2 * rd I 151 5 + 1) pc) 151 = ru (ru (rd I 151) (238 + 2 * rd I 151 5) (1000 * key + (c.length : Int))) (238 + 2 * rd I 151 5 + 1) pc := by
        rw [rd_up (by omega) (by omega), rd_up (by omega) (by omega), rd_mu (by omega), b2]
      exact loop c.length 0 (by omega) (by omega) _ (((b1.mu (Or.inl rfl) _ _).up (Or.inr (Or.inl rfl)) _ _).up (Or.inr (Or.inl rfl)) _ _) (fun j hj => by rw [up_f (by omega), up_f (by omega), mu_f (by omega)]; exact b3 j hj) (by rw [up_f (by omega), up_f (by omega), mj_up_s]) (by rw [up_f (by omega), up_f (by omega), mu_f (by omega)]; exact b18) (fun j j0 j1 => by rw [rd_uo (by omega), rd_uo (by omega), rd_mu (by omega)]; exact bc j j0 j1) (by rw [er, ru_n (by omega), ru_s]) (by rw [er, ru_s]) (fun j j0 j1 => by omega) (fun q q1 q2 q3 => by rw [er, ru_n q2, ru_n q1])
    · rename_i z1 z2
      exact hF (by omega) _ (b1.mu (Or.inl rfl) _ _) (by rw [rd_mu (by omega)]; exact b2) (fun j hj => by rw [mu_f (by omega)]; exact b3 j hj) mj_up_s
  refine x_C false [.inr (13, 0, 150, 0)] [18] 40 hS ⟨xok_m hS, trivial⟩ ?_
  (repeat' (first | rw [hI1] | refine m_go (T := T) (L := L) (k := 0) (b := 0) hS (tT _ f1) (by rw [g1 8 (by omega)]; exact hL) hL2 i9 (by omega) (by omega) (by omega) (by omega) (fun J j1 j2 j3 => ?_) | refine m_takesKey (T := T) (L := L) hS (tT _ (f1.tr j1)) (by rw [j2 8 (by omega), g1 8 (by omega)]; exact hL) hL2 (by rw [(f1.tr j1).r (by omega)]; exact hkk) (by rw [(f1.tr j1).r (by omega)]; exact hka) j3 w1 (by omega) (fun k0 => ?_) (fun k0 J2 k1 k2 k3 k4 => ?_) | with_reducible assumption | with_reducible exact rfl | with_reducible exact trivial | (with_reducible (show (_ : Int) ≤ _); omega) | (with_reducible (show (_ : Int) < _); omega) | (with_reducible (show (_ : Nat) < _); omega) | (with_reducible (show (_ : Nat) ≤ _); omega) | with_reducible exact Or.inl rfl | with_reducible exact Or.inr rfl | with_reducible exact Or.inl trivial | with_reducible exact Or.inr trivial | (intro hz; exact absurd hz (by decide)) | (intro hz; exfalso; omega) | refine And.intro ?_ ?_ | intro _))
  · have f2 := f1.tr j1
    exact bad J _ (f2.mo (fun a q => Or.inl q)) (f2.r (by omega)) (fun j hj => by rw [j2 j (by omega), g1 j (by omega)]) j3.1 (by omega) (h0 k0)
  · have f3 := (f1.tr j1).tr k1
    have z8 : ∀ j, (j < 9 ∨ 14 < j) → J2 150 j = I 150 j := fun j hj => by rw [k2 j hj, j2 j (by omega), g1 j (by omega)]
    obtain ⟨r, s', p, hb, hg⟩ := h1 k0
    have w2 := wf2 (T := T) hL2.1 k0
    have ok := PZ_ok ⟨k0, kb.2.1⟩ _ _ _ _ _ _ _ p w2.1
    have ok1 := ok.1.1
    refine m_takesE (T := T) (L := L) (key := key1 T L) hS ⟨k0, kb.2.1⟩ k3 (tT _ f3) (by rw [z8 8 (by omega)]; exact hL) hL2 (by omega) k4 w2.1 (by have := w2.2; show (1 : Int) ≤ (st1 T L).1.2.1; omega) p (fun hr hk0 J3 q1 q2 q3 => ?_) (fun hbd J3 q1 q2 => ?_)
    · have ok2 := (ok.2.2 hr).2.1
      have ok3 : (0 : Int) ≤ s'.2.1.length ∧ (s'.2.1.length : Int) - 0 ≤ s'.1.2.1 - (st1 T L).1.2.1 := ok2
      have hw2 := w2.2
      have f4 : fr mX I J3 := (f3.mo (fun a q => Or.inl q)).tr (q1.1.mo (fun a q => (by unfold mX; omega : mX a)))
      refine ⟨rfl, ?_⟩
      (repeat' (first | with_reducible assumption | with_reducible exact rfl | with_reducible exact trivial | (with_reducible (show (_ : Int) ≤ _); omega) | (with_reducible (show (_ : Int) < _); omega) | (with_reducible (show (_ : Nat) < _); omega) | (with_reducible (show (_ : Nat) ≤ _); omega) | with_reducible exact Or.inl rfl | with_reducible exact Or.inr rfl | with_reducible exact Or.inl trivial | with_reducible exact Or.inr trivial | (intro hz; exact absurd hz (by decide)) | (intro hz; exfalso; omega) | refine And.intro ?_ ?_ | intro _))
      have hgo := good J3 (key1 T L) s'.2.2 s'.2.1 ⟨k0, kb.2.1⟩ (by omega) f4 (by rw [q1.1.r (by omega), f3.r (by omega)]) (fun j hj => by rw [q1.2.1 j (by omega), z8 j (by omega)]) (by rw [q1.2.2]; exact k3) (by rw [q2.2.2.1, mapl]) q3 (fun j j0 j1' => ?_) (hg ⟨hr, hk0⟩).1 (hg ⟨hr, hk0⟩).2
      · exact hgo
      · have e := q2.2.2.2 j.toNat (by rw [List.length_map]; omega)
        rw [show ((j.toNat : Nat) : Int) = j by omega] at e
        rw [e]
        unfold lf
        rw [List.getD_eq_getElem?_getD, List.getD_eq_getElem?_getD, List.getElem?_map]
        have hj2 : j.toNat < s'.2.1.length := by omega
        rw [List.getElem?_eq_getElem hj2]
        rfl
    · have f4 : fr mX I J3 := (f3.mo (fun a q => Or.inl q)).tr (q1.1.mo (fun a q => (by unfold mX; omega : mX a)))
      refine ⟨rfl, ?_⟩
      (repeat' (first | with_reducible assumption | with_reducible exact rfl | with_reducible exact trivial | (with_reducible (show (_ : Int) ≤ _); omega) | (with_reducible (show (_ : Int) < _); omega) | (with_reducible (show (_ : Nat) < _); omega) | (with_reducible (show (_ : Nat) ≤ _); omega) | with_reducible exact Or.inl rfl | with_reducible exact Or.inr rfl | with_reducible exact Or.inl trivial | with_reducible exact Or.inr trivial | (intro hz; exact absurd hz (by decide)) | (intro hz; exfalso; omega) | refine And.intro ?_ ?_ | intro _))
      exact bad J3 _ f4 (by rw [q1.1.r (by omega), f3.r (by omega)]) (fun j hj => by rw [q1.2.1 j (by omega), z8 j (by omega)]) q2 (by omega) (hb hbd)
