/-! keep, back, check -/
def kpX (a : Nat) : Prop := tbX 61 a ∨ a = 20 ∨ a = 150 ∨ a = 152
theorem Rel_keep {L : Nat} {xs : Nat → Int32} {n : Nat} {I J : mj_I} {S T : mj_S} (hn : n < 64) (h : Rel L xs n I S) (hT : sK 61 21 14 S T) (hf : fr kpX I J) (h20 : ∀ k, k ≠ 2 → J 20 k = I 20 k) (h202 : J 20 2 = 1) (h150 : ∀ k, k ≠ 3 → J 150 k = I 150 k) (h1503 : J 150 3 = 1) (h152 : rd J 152 = rd I 151) (hCJ : Cb J T 61 (rd I 151)) : Rel L xs (n + 1) J T := by
  obtain ⟨hS, hO, hA, hI, hTp, hW, hSh, hSl, hM, hC, hB⟩ := h
  have hb61 : mB 61 := Or.inr rfl
  have hb21 : mB 21 := Or.inl rfl
  obtain ⟨e1, e2, e3, e4⟩ := sK_2 hT
  have e : ∀ {a : Nat}, ¬ kpX a → J a = I a := fun q => hf _ q
  have er : ∀ {a : Nat}, ¬ kpX a → rd J a = rd I a := fun q => hf.r q
  have r151 : rd J 151 = rd I 151 := er (by unfold kpX tbX; omega)
  refine ⟨sK_Sh hb61 hT hS, ⟨fun a ha => ?_, ⟨fun a ha => ⟨?_, ?_⟩, RX_S hb61 hb21 hT hO.2.1.2⟩, ?_⟩, ⟨?_, ?_⟩, ⟨Or.inr h202, ?_, fun q => ⟨?_, ?_⟩⟩, ?_, ?_, ?_, ?_, ?_, ?_, ?_⟩
  · rw [e (by unfold kpX tbX; omega)]; exact hO.1 a ha
  · rw [← (hO.2.1.1 a ha).1]
    exact funext (fun j => hT.2.1 a j (by omega))
  · rw [← (hO.2.1.1 a ha).2, hT.1]
  · rw [er (a := 157) (by unfold kpX tbX; omega), er (a := 158) (by unfold kpX tbX; omega)]; exact hO.2.2
  · rw [r151]; exact hA.1
  · rw [r151]
    exact Cb_S hb61 hT hb21 (by omega) (hA.2.fr hA.1.1 hf (fun a q => by unfold bc at q; unfold kpX tbX; omega))
  · rw [h1503, h202]
  · rw [h152]; exact hA.1
  · rw [h152]; exact hCJ
  · exact RT_s hTp (by rw [e (by unfold kpX tbX; omega)]) (h150 8 (by decide)) (er (by unfold kpX tbX; omega)) (er (by unfold kpX tbX; omega))
  · exact RW_s hW (h20 9 (by decide)) (h150 47 (by decide)) (er (by unfold kpX tbX; omega)) (er (by unfold kpX tbX; omega))
  · exact RSh_s hSh (fun a a0 a1 => e (by unfold kpX tbX; omega)) (er (by unfold kpX tbX; omega)) (er (by unfold kpX tbX; omega)) (er (by unfold kpX tbX; omega))
  · exact RSl_s hSl (fun a a0 a1 => e (by unfold kpX tbX; omega)) (er (by unfold kpX tbX; omega)) (er (by unfold kpX tbX; omega)) (er (by unfold kpX tbX; omega)) (er (by unfold kpX tbX; omega))
  · unfold RM at hM ⊢
    rw [er (a := 154) (by unfold kpX tbX; omega)]
    exact hM
  · intro q
    rw [h150 27 (by decide), h150 4 (by decide)] at q
    rw [r151, h150 26 (by decide)]
    exact (hC q).fr (h150 28 (by decide)) (h150 31 (by decide)) (h150 32 (by decide)) (er (by unfold kpX tbX; omega)) (er (by unfold kpX tbX; omega)) (er (by unfold kpX tbX; omega)) (er (by unfold kpX tbX; omega))
  · unfold RBd at hB ⊢
    rw [h150 27 (by decide), h150 4 (by decide), e3, e4]
    omega
theorem ok_row {S : mj_S} (hS : mk_Sh S) : xok S (21, 0, 151, 1610) ∧ xok S (21, 0, 152, 1610) ∧ xok S (21, 0, 153, 1610) := ⟨x_chq_ok hS (by decide +kernel), x_chq_ok hS (by decide +kernel), x_chq_ok hS (by decide +kernel)⟩
theorem P_keep {L : Nat} {xs : Nat → Int32} {n : Nat} : Pair L xs n 186 295 [] := by
  intro I S hn hR
  have hR0 := hR
  obtain ⟨hS, hO, ⟨hN, hCb⟩, hI, hTp, hWt, hSh, hSl, hMo, hCa, hBd⟩ := hR
  have hH := hN.1
  have hCH := hCb.1
  have hb : mB 21 := Or.inl rfl
  unfold InvH at hH
  unfold CbH at hCH
  have e13 : I 21 13 = rd I 151 1 := hCH.2.1
  have hb61 : mB 61 := Or.inr rfl
  refine mj_C_of 20 ?_
  (repeat' (first | refine c_takeB hS hb61 hb (by omega) hN hCb hO.2.1.2 ?_ (fun J T hT hJ hCJ => ?_) | assumption | exact Or.inl rfl | exact Or.inr rfl | (intro hz; exact absurd hz (by decide)) | refine And.intro ?_ ?_ | intro _))
  all_goals skip
def bkX (a : Nat) : Prop := tbX 21 a ∨ a = 150 ∨ a = 151
theorem Rel_back {L : Nat} {xs : Nat → Int32} {n : Nat} {I J : mj_I} {S T : mj_S} (hn : n < 64) (h : Rel L xs n I S) (h2 : I 20 2 = 1) (hT : sK 21 61 14 S T) (hf : fr bkX I J) (h150 : ∀ k, k ≠ 4 → J 150 k = I 150 k) (h1504 : J 150 4 = I 150 4 + 1) (h151 : rd J 151 = rd I 152) (hCJ : Cb J T 21 (rd I 152)) : Rel L xs (n + 1) J T := by
  obtain ⟨hS, hO, hA, hI, hTp, hW, hSh, hSl, hM, hC, hB⟩ := h
  have hb61 : mB 61 := Or.inr rfl
  have hb21 : mB 21 := Or.inl rfl
  obtain ⟨e1, e2, e3, e4⟩ := sK_2 hT
  have e : ∀ {a : Nat}, ¬ bkX a → J a = I a := fun q => hf _ q
  have er : ∀ {a : Nat}, ¬ bkX a → rd J a = rd I a := fun q => hf.r q
  have r152 : rd J 152 = rd I 152 := er (by unfold bkX tbX; omega)
  have e20 : J 20 = I 20 := e (by unfold bkX tbX; omega)
  refine ⟨sK_Sh hb21 hT hS, ⟨fun a ha => ?_, ⟨fun a ha => ⟨?_, ?_⟩, RX_S hb21 hb61 hT hO.2.1.2⟩, ?_⟩, ⟨?_, ?_⟩, ⟨?_, ?_, fun q => ⟨?_, ?_⟩⟩, ?_, ?_, ?_, ?_, ?_, ?_, ?_⟩
  · rw [e (by unfold bkX tbX; omega)]; exact hO.1 a ha
  · rw [← (hO.2.1.1 a ha).1]
    exact funext (fun j => hT.2.1 a j (by omega))
  · rw [← (hO.2.1.1 a ha).2, hT.1]
  · rw [er (a := 157) (by unfold bkX tbX; omega), er (a := 158) (by unfold bkX tbX; omega)]; exact hO.2.2
  · rw [h151]; exact (hI.2.2 h2).1
  · rw [h151]; exact hCJ
  · rw [e20]; exact hI.1
  · rw [e20, h150 3 (by decide)]; exact hI.2.1
  · rw [r152]; exact (hI.2.2 h2).1
  · rw [r152]
    exact Cb_S hb21 hT hb61 (by omega) ((hI.2.2 h2).2.fr (hI.2.2 h2).1.1 hf (fun a q => by unfold bc at q; unfold bkX tbX; omega))
  · exact RT_s hTp (by rw [e (by unfold bkX tbX; omega)]) (h150 8 (by decide)) (er (by unfold bkX tbX; omega)) (er (by unfold bkX tbX; omega))
  · exact RW_s hW (by rw [e20]) (h150 47 (by decide)) (er (by unfold bkX tbX; omega)) (er (by unfold bkX tbX; omega))
  · exact RSh_s hSh (fun a a0 a1 => e (by unfold bkX tbX; omega)) (er (by unfold bkX tbX; omega)) (er (by unfold bkX tbX; omega)) (er (by unfold bkX tbX; omega))
  · exact RSl_s hSl (fun a a0 a1 => e (by unfold bkX tbX; omega)) (er (by unfold bkX tbX; omega)) (er (by unfold bkX tbX; omega)) (er (by unfold bkX tbX; omega)) (er (by unfold bkX tbX; omega))
  · unfold RM at hM ⊢
    rw [er (a := 154) (by unfold bkX tbX; omega)]
    exact hM
  · intro q
    unfold RBd at hB
    rw [h150 27 (by decide), h1504] at q
    omega
  · unfold RBd at hB ⊢
    rw [h150 27 (by decide), h1504, e3, e4]
    omega
/-- the check: 151 is as before -/
def ckX (a : Nat) : Prop := a = 20 ∨ a = 150 ∨ a = 151 ∨ (165 ≤ a ∧ a ≤ 168) ∨ scr a
theorem Rel_ck {L : Nat} {xs : Nat → Int32} {n : Nat} {I J : mj_I} {S : mj_S} (hn : n < 64) (h : Rel L xs n I S) (hf : fr ckX I J) (h20 : ∀ k, k ≠ 9 → J 20 k = I 20 k) (h209 : J 20 9 = 0) (h150 : ∀ k, k ≠ 4 → k ≠ 26 → k ≠ 27 → k ≠ 28 → k ≠ 31 → k ≠ 32 → k ≠ 47 → J 150 k = I 150 k) (h47 : J 150 47 = 0) (h151 : rd J 151 = rd I 151) (h4 : J 150 4 = I 150 4 + 2) (h27 : J 150 27 = I 150 27 ∨ J 150 27 = I 150 4 + 1) : Rel L xs (n + 1) J S := by
  obtain ⟨hS, hO, hA, hI, hTp, hW, hSh, hSl, hM, hC, hB⟩ := h
  have e : ∀ {a : Nat}, ¬ ckX a → J a = I a := fun q => hf _ q
  have er : ∀ {a : Nat}, ¬ ckX a → rd J a = rd I a := fun q => hf.r q
  have r152 : rd J 152 = rd I 152 := er (by unfold ckX scr; omega)
  have hB' := hB
  unfold RBd at hB'
  refine ⟨hS, ⟨fun a ha => ?_, hO.2.1, ?_⟩, ⟨?_, ?_⟩, ⟨?_, ?_, fun q => ?_⟩, ?_, ?_, ?_, ?_, ?_, ?_, ?_⟩
  · rw [e (by unfold ckX scr; omega)]; exact hO.1 a ha
  · rw [er (a := 157) (by unfold ckX scr; omega), er (a := 158) (by unfold ckX scr; omega)]; exact hO.2.2
  · rw [h151]; exact hA.1
  · rw [h151]; exact hA.2.fr hA.1.1 hf (fun a q => by unfold bc at q; unfold ckX scr; omega)
  · rw [h20 2 (by decide)]; exact hI.1
  · rw [h20 2 (by decide), h150 3 (by decide) (by decide) (by decide) (by decide) (by decide) (by decide) (by decide)]; exact hI.2.1
  · rw [h20 2 (by decide)] at q
    rw [r152]
    exact ⟨(hI.2.2 q).1, (hI.2.2 q).2.fr (hI.2.2 q).1.1 hf (fun a q => by unfold bc at q; unfold ckX scr; omega)⟩
  · exact RT_s hTp (by rw [e (by unfold ckX scr; omega)]) (h150 8 (by decide) (by decide) (by decide) (by decide) (by decide) (by decide) (by decide)) (er (by unfold ckX scr; omega)) (er (by unfold ckX scr; omega))
  · unfold RW
    rw [h209, h47]
    exact ⟨rfl, by omega, fun k k0 k1 => by omega⟩
  · exact RSh_s hSh (fun a a0 a1 => e (by unfold ckX scr; omega)) (er (by unfold ckX scr; omega)) (er (by unfold ckX scr; omega)) (er (by unfold ckX scr; omega))
  · exact RSl_s hSl (fun a a0 a1 => e (by unfold ckX scr; omega)) (er (by unfold ckX scr; omega)) (er (by unfold ckX scr; omega)) (er (by unfold ckX scr; omega)) (er (by unfold ckX scr; omega))
  · unfold RM at hM ⊢
    rw [er (a := 154) (by unfold ckX scr; omega)]
    exact hM
  · intro q
    omega
  · unfold RBd
    omega
