/-! ways, bears -/
theorem Rel_sw {L : Nat} {xs : Nat → Int32} {n : Nat} {I J : mj_I} {S : mj_S} {day : Int} (hn : n < 64) (h : Rel L xs n I S) (hz : swZ I day J) (hC2 : CaOK (rd I 151) (allW (rd I 151) (abB (rd I 151) z0 day 0)) J) : Rel L xs (n + 1) J S := by
  obtain ⟨hS, hO, hA, hI, hT, hW, hSh, hSl, hM, hC, hB⟩ := h
  obtain ⟨hf, h150, h26, h27⟩ := hz
  have e : ∀ {a : Nat}, ¬ swX a → J a = I a := fun q => hf _ q
  have er : ∀ {a : Nat}, ¬ swX a → rd J a = rd I a := fun q => hf.r q
  have e20 : J 20 = I 20 := e (by unfold swX; omega)
  have r151 : rd J 151 = rd I 151 := er (by unfold swX; omega)
  have r152 : rd J 152 = rd I 152 := er (by unfold swX; omega)
  refine ⟨hS, ⟨fun a ha => ?_, hO.2.1, ?_⟩, ⟨?_, ?_⟩, ⟨?_, ?_, fun q => ?_⟩, ?_, ?_, ?_, ?_, ?_, ?_, ?_⟩
  · rw [e (by unfold swX; omega)]; exact hO.1 a ha
  · rw [er (a := 157) (by unfold swX; omega), er (a := 158) (by unfold swX; omega)]; exact hO.2.2
  · rw [r151]; exact hA.1
  · rw [r151]; exact hA.2.fr hA.1.1 hf (fun a q => by unfold bc at q; unfold swX; omega)
  · rw [e20]; exact hI.1
  · rw [e20, h150 3 (by decide) (by decide) (by decide) (by decide) (by decide)]; exact hI.2.1
  · rw [e20] at q
    rw [r152]
    exact ⟨(hI.2.2 q).1, (hI.2.2 q).2.fr (hI.2.2 q).1.1 hf (fun a q => by unfold bc at q; unfold swX; omega)⟩
  · exact RT_s hT (by rw [e (by unfold swX; omega)]) (h150 8 (by decide) (by decide) (by decide) (by decide) (by decide)) (er (by unfold swX; omega)) (er (by unfold swX; omega))
  · exact RW_s hW (by rw [e20]) (h150 47 (by decide) (by decide) (by decide) (by decide) (by decide)) (er (by unfold swX; omega)) (er (by unfold swX; omega))
  · exact RSh_s hSh (fun a a0 a1 => e (by unfold swX; omega)) (er (by unfold swX; omega)) (er (by unfold swX; omega)) (er (by unfold swX; omega))
  · exact RSl_s hSl (fun a a0 a1 => e (by unfold swX; omega)) (er (by unfold swX; omega)) (er (by unfold swX; omega)) (er (by unfold swX; omega)) (er (by unfold swX; omega))
  · unfold RM at hM ⊢
    rw [er (a := 154) (by unfold swX; omega)]
    exact hM
  · intro _
    rw [r151, h26]
    exact hC2
  · unfold RBd at hB ⊢
    rw [h27, h150 4 (by decide) (by decide) (by decide) (by decide) (by decide)]
    omega
/-- calls that only read, where the reference sweeps -/
theorem pair_sw {L : Nat} {xs : Nat → Int32} {n xf mf : Nat} {as : List mj_V} (f : (Int → Int) → Int)
    (hc : ∀ I S (Q : mj_Q), Rel L xs n I S → (∀ I', fr scr I I' → Q (some (.inl (f (rd I 151)))) I' S) → mj_C 400 xf (.inr 20 :: as) I S Q)
    (hm : ∀ I S (Q : mj_Q), Rel L xs n I S → (∀ I' day, (I' = I ∨ swZ I day I' ∧ CaOK (rd I 151) (allW (rd I 151) (abB (rd I 151) z0 day 0)) I') → Q (some (.inl (f (rd I 151)))) I' S) → mj_C 400 mf (.inr 150 :: as) I S Q) : Pair L xs n xf mf as := by
  intro I S hn hR
  refine hc I S _ hR (fun J hJ => ⟨_, rfl, ⟨hJ 1 (by unfold scr; omega), rfl, rfl⟩, ?_⟩)
  have hR2 := hR.fr hJ
  refine hm J S _ hR2 (fun K day hK => ⟨?_, ?_⟩)
  · rw [hJ.r (a := 151) (by unfold scr; omega)]
  · rcases hK with hK | ⟨h1, h2⟩
    · rw [hK]; exact hR2.up hn
    · exact Rel_sw hn hR2 h1 h2
theorem scrO {I J : mj_I} (h : fr (fun a => (101 ≤ a ∧ a ≤ 107) ∨ a = 21 + 12 ∨ a = 21 + 13) I J) : fr scr I J := h.mo (fun a q => by unfold scr; omega)
theorem scrF {I J : mj_I} (h : fr (fun a => a = 103 ∨ a = 108) I J) : fr scr I J := h.mo (fun a q => by unfold scr; omega)
theorem c_open1 {d : Nat} {I : mj_I} {S : mj_S} {Q : mj_Q} (hS : mk_Sh S) {b : Nat} (hb : mB b) {N : Int → Int} (hN : Inv N) (hC : Cb I S b N) (day : Int) (hd : 4 < d)
    (h : ∀ J r, fr (fun a => (101 ≤ a ∧ a ≤ 107) ∨ a = b + 12 ∨ a = b + 13) I J → OS N day J → Q (some (.inl r)) J S) : mj_C d 115 [.inr 101, .inr b, .inl day] I S Q := c_open hS hb hN hC day hd (fun J a b _ => h J 1 a b) (fun J a b => h J 0 a b)
theorem OS.g {N : Int → Int} {day : Int} {I J : mj_I} (h : OS N day I) (hf : ∀ a, 101 ≤ a → a ≤ 107 → a ≠ 103 → J a = I a) : OS N day J := by
  have e : ∀ k, J 101 k = I 101 k := fun k => by rw [hf 101 (by omega) (by omega) (by omega)]
  refine ⟨⟨by rw [e]; exact h.1.1, by rw [e]; exact h.1.2.1, h.1.2.2.e (e _) (e _) (rd_oo (hf 104 (by omega) (by omega) (by omega))) (rd_oo (hf 105 (by omega) (by omega) (by omega))) (rd_oo (hf 106 (by omega) (by omega) (by omega))) (rd_oo (hf 107 (by omega) (by omega) (by omega)))⟩, ?_, ?_⟩
  · rw [rd_oo (hf 102 (by omega) (by omega) (by omega))]; exact h.2.1
  · rw [e]; exact h.2.2
theorem OSrc {N : Int → Int} {day : Int} {I J : mj_I} (h : OS N day I) (hf : fr (fun a => a = 109 ∨ a = 21 + 12 ∨ a = 21 + 13) I J) : OS N day J := h.g (fun a a0 a1 _ => hf a (by omega))
theorem P_ways {L : Nat} {xs : Nat → Int32} {n : Nat} (v : Int) : Pair L xs n 114 249 [.inl v] := by
  refine pair_sw (fun N => if 0 ≤ v ∧ v ≤ 999 then ((allW N (abB N z0 v 0)).length : Int) else -1000000001) (fun I S Q hR h => ?_) (fun I S Q hR h => ?_)
  · obtain ⟨hS, hO, ⟨hN, hCb⟩, hI, hTp, hWt, hSh, hSl, hMo, hCa, hBd⟩ := hR
    have hH := hN.1
    have hCH := hCb.1
    have hb : mB 21 := Or.inl rfl
    unfold InvH at hH
    unfold CbH at hCH
    refine x_C false [.inr (1, 0, 20, 0), .inl v] [] 60 hS ⟨xok_w hS, trivial, trivial⟩ ?_
    (repeat' (first | refine c_isDay _ ?_ ?_ ?_ | refine c_open1 hS hb hN hCb _ ?_ (fun J r hJ hO => ?_) | refine c_countAll hS hN hO ?_ (fun K hK => ?_) | with_reducible assumption | with_reducible exact rfl | with_reducible exact trivial | (with_reducible (show (_ : Int) ≤ _); omega) | (with_reducible (show (_ : Int) < _); omega) | (with_reducible (show (_ : Nat) < _); omega) | (with_reducible (show (_ : Nat) ≤ _); omega) | with_reducible exact Or.inl rfl | with_reducible exact Or.inr rfl | with_reducible exact Or.inl trivial | with_reducible exact Or.inr trivial | (intro hz; exact absurd hz (by decide)) | (intro hz; exfalso; omega) | refine And.intro ?_ ?_ | intro _))
    · rename_i z _
      exact Qe (h K ((scrO hJ).tr (scrF hK))) (if_pos z)
    · rename_i z _
      exact Qe (h I fr.refl) (if_neg z)
  · obtain ⟨hS, hO, ⟨hN, hCb⟩, hI, hTp, hWt, hSh, hSl, hMo, hCa, hBd⟩ := hR
    have hH := hN.1
    have hCH := hCb.1
    have hb : mB 21 := Or.inl rfl
    unfold InvH at hH
    unfold CbH at hCH
    refine x_C false [.inr (13, 0, 150, 0), .inl v] [] 60 hS ⟨xok_m hS, trivial, trivial⟩ ?_
    (repeat' (first | refine m_isDay _ ?_ ?_ ?_ | refine m_sweeps hS hN hMo hCa _ ?_ (fun J hz hC => ?_) | with_reducible assumption | with_reducible exact rfl | with_reducible exact trivial | (with_reducible (show (_ : Int) ≤ _); omega) | (with_reducible (show (_ : Int) < _); omega) | (with_reducible (show (_ : Nat) < _); omega) | (with_reducible (show (_ : Nat) ≤ _); omega) | with_reducible exact Or.inl rfl | with_reducible exact Or.inr rfl | with_reducible exact Or.inl trivial | with_reducible exact Or.inr trivial | (intro hz; exact absurd hz (by decide)) | (intro hz; exfalso; omega) | refine And.intro ?_ ?_ | intro _))
    · rename_i z _
      exact Qe (h J v (Or.inr ⟨hz, hC⟩)) (by rw [if_pos z]; exact hC.1.symm)
    · rename_i z _
      exact Qe (h I v (Or.inl rfl)) (if_neg z)
def waS (N : Int → Int) (v w : Int) : Int := if ¬ (0 ≤ v ∧ v ≤ 1) then -1000000001 else if ¬ (-1 ≤ w ∧ w ≤ N 3 - 1) then -1000000001 else match allW N (abB N z0 (N 1) 0) with
  | [] => -1000000005
  | x :: l => if w < 0 then (if v = 0 then cst N x else (bst N l (x, cst N x)).2) else if v = 0 then x w else (bst N l (x, cst N x)).1 w
theorem bst_c {N : Int → Int} : ∀ (l : List (Int → Int)) (a : (Int → Int) × Int), a.2 = cst N a.1 → (bst N l a).2 = cst N (bst N l a).1
  | [], a, h => h
  | w :: l, a, h => by
    unfold bst
    refine bst_c l _ ?_
    split
    · rfl
    · exact h
theorem bst_in {N : Int → Int} {P : (Int → Int) → Prop} : ∀ (l : List (Int → Int)) (a : (Int → Int) × Int), P a.1 → (∀ w, w ∈ l → P w) → P (bst N l a).1
  | [], a, h, _ => h
  | w :: l, a, h, hl => by
    unfold bst
    refine bst_in l _ ?_ (fun v hv => hl v (List.mem_cons_of_mem _ hv))
    split
    · exact hl w List.mem_cons_self
    · exact h
theorem waS_n {N : Int → Int} {v w : Int} (hv : 0 ≤ v ∧ v ≤ 1) (hw : -1 ≤ w ∧ w ≤ N 3 - 1) (h : allW N (abB N z0 (N 1) 0) = []) : waS N v w = -1000000005 := by
  unfold waS
  rw [if_neg (by omega), if_neg (by omega), h]
theorem waS_c {N : Int → Int} {v w : Int} (hv : 0 ≤ v ∧ v ≤ 1) (hw : -1 ≤ w ∧ w ≤ N 3 - 1) {x : Int → Int} {l : List (Int → Int)} (h : allW N (abB N z0 (N 1) 0) = x :: l) : waS N v w = if w < 0 then (if v = 0 then cst N x else (bst N l (x, cst N x)).2) else if v = 0 then x w else (bst N l (x, cst N x)).1 w := by
  unfold waS
  rw [if_neg (by omega), if_neg (by omega), h]
theorem P_way {L : Nat} {xs : Nat → Int32} {n : Nat} (v w : Int) : Pair L xs n 128 257 [.inl v, .inl w] := by
  refine pair_sw (fun N => waS N v w) (fun I S Q hR h => ?_) (fun I S Q hR h => ?_)
  · obtain ⟨hS, hO, ⟨hN, hCb⟩, hI, hTp, hWt, hSh, hSl, hMo, hCa, hBd⟩ := hR
    have hH := hN.1
    have hCH := hCb.1
    have hb : mB 21 := Or.inl rfl
    unfold InvH at hH
    unfold CbH at hCH
    have e13 : I 21 13 = rd I 151 1 := hCH.2.1
    have e3 : I 21 3 = rd I 151 3 := hCH.2.2.2.1
    refine x_C false [.inr (1, 0, 20, 0), .inl v, .inl w] [] 90 hS ⟨xok_w hS, trivial, trivial, trivial⟩ ?_
    (repeat' (first | rw [e13] | rw [e3] | refine c_within _ _ _ ?_ ?_ | refine c_open1 hS hb hN hCb _ ?_ (fun J r hJ hO => ?_) | refine c_readCosts hS hb hN (hCb.fr hN.1 hJ (fun a q => by unfold bc at q; omega)) hO ?_ (fun K hK hcs => ?_) | refine c_findFirst hS hN (OSrc hO hK) ?_ (fun A x l hA hl hr => ?_) (fun A hA hl => ?_) | refine c_findCheapest hS hN (OSrc hO hK) hcs ?_ (fun A x l hA h1 hl hr => ?_) (fun A hA hl => ?_) | refine c_foundCost hS hN ?_ (w := x) (all_mem hN (by rw [hl]; exact List.mem_cons_self)) hr (by rw [hA.r (by omega)]; exact hcs) ?_ | refine c_foundCost hS hN h1 (w := (bst (rd I 151) l (x, cst (rd I 151) x)).1) (bst_in (P := fun u => ∀ q, 0 ≤ q → q < rd I 151 3 → 0 ≤ u q ∧ u q < rd I 151 2) l _ (all_mem hN (by rw [hl]; exact List.mem_cons_self)) (fun u hu => all_mem hN (by rw [hl]; exact List.mem_cons_of_mem _ hu))) hr (by rw [hA.r (by omega)]; exact hcs) ?_ | with_reducible assumption | with_reducible exact rfl | with_reducible exact trivial | (with_reducible (show (_ : Int) ≤ _); omega) | (with_reducible (show (_ : Int) < _); omega) | (with_reducible (show (_ : Nat) < _); omega) | (with_reducible (show (_ : Nat) ≤ _); omega) | with_reducible exact Or.inl rfl | with_reducible exact Or.inr rfl | with_reducible exact Or.inl trivial | with_reducible exact Or.inr trivial | (intro hz; exact absurd hz (by decide)) | (intro hz; exfalso; omega) | refine And.intro ?_ ?_ | intro _))
    · rename_i z1 _ z2 _ z3 _ z4
      refine Qe (h A ((scrO hJ).tr ((hK.mo (fun a q => by unfold scr; omega)).tr (hA.mo (fun a q => by unfold scr; omega))))) ?_
      rw [waS_c z1 z2 hl, if_neg (by omega), if_neg z3]
      exact (hr w (by omega) (by omega)).symm
    · rename_i z1 _ z2 _ z3 _ z4
      refine Qe (h A ((scrO hJ).tr ((hK.mo (fun a q => by unfold scr; omega)).tr (hA.mo (fun a q => by unfold scr; omega))))) ?_
      rw [waS_c z1 z2 hl, if_pos (by omega), if_neg z3]
      exact bst_c l _ rfl
    · rename_i z1 _ z2 _ z3 _
      exact Qe (h A ((scrO hJ).tr ((hK.mo (fun a q => by unfold scr; omega)).tr (hA.mo (fun a q => by unfold scr; omega))))) (waS_n z1 z2 hl)
    · rename_i z1 _ z2 _ z3 _ z4
      refine Qe (h A ((scrO hJ).tr ((hK.mo (fun a q => by unfold scr; omega)).tr (hA.mo (fun a q => by unfold scr; omega))))) ?_
      rw [waS_c z1 z2 hl, if_neg (by omega), if_pos z3]
      exact (hr w (by omega) (by omega)).symm
    · rw [hA.f (by omega)]
      exact (OSrc hO hK).1.2.1
    · rename_i z1 _ z2 _ z3 _ z4
      refine Qe (h A ((scrO hJ).tr ((hK.mo (fun a q => by unfold scr; omega)).tr (hA.mo (fun a q => by unfold scr; omega))))) ?_
      rw [waS_c z1 z2 hl, if_pos (by omega), if_pos z3]
    · rename_i z1 _ z2 _ z3 _
      exact Qe (h A ((scrO hJ).tr ((hK.mo (fun a q => by unfold scr; omega)).tr (hA.mo (fun a q => by unfold scr; omega))))) (waS_n z1 z2 hl)
    · rename_i z1 _ z2 _
      refine Qe (h I fr.refl) ?_
      unfold waS
      rw [if_neg (by omega), if_pos z2]
    · rename_i z1 _
      refine Qe (h I fr.refl) ?_
      unfold waS
      rw [if_pos z1]
  · obtain ⟨hS, hO, ⟨hN, hCb⟩, hI, hTp, hWt, hSh, hSl, hMo, hCa, hBd⟩ := hR
    have hH := hN.1
    have hCH := hCb.1
    have hb : mB 21 := Or.inl rfl
    unfold InvH at hH
    unfold CbH at hCH
    have cc : ∀ x l, allW (rd I 151) (abB (rd I 151) z0 (rd I 151 1) 0) = x :: l → ∀ J, CaOK (rd I 151) (allW (rd I 151) (abB (rd I 151) z0 (rd I 151 1) 0)) J → (∀ s, 0 ≤ s → s < 6 → rd J 165 s = x s) ∧ J 150 31 = cst (rd I 151) x ∧ (∀ s, 0 ≤ s → s < 6 → rd J 166 s = (bst (rd I 151) l (x, cst (rd I 151) x)).1 s) ∧ J 150 32 = (bst (rd I 151) l (x, cst (rd I 151) x)).2 := fun x l e J hC => hC.2.1 x l e
    have ne : ∀ J, CaOK (rd I 151) (allW (rd I 151) (abB (rd I 151) z0 (rd I 151 1) 0)) J → ¬ J 150 28 = 0 → ∃ x l, allW (rd I 151) (abB (rd I 151) z0 (rd I 151 1) 0) = x :: l := by
      intro J hC z
      cases e : allW (rd I 151) (abB (rd I 151) z0 (rd I 151 1) 0) with
      | nil => rw [e] at hC; exact absurd hC.1 z
      | cons x l => exact ⟨x, l, rfl⟩
    refine x_C false [.inr (13, 0, 150, 0), .inl v, .inl w] [] 90 hS ⟨xok_m hS, trivial, trivial, trivial⟩ ?_
    (repeat' (first | refine c_in _ _ _ ?_ ?_ | refine m_sweeps hS hN hMo hCa _ ?_ (fun J hz hC => ?_) | with_reducible assumption | with_reducible exact rfl | with_reducible exact trivial | (with_reducible (show (_ : Int) ≤ _); omega) | (with_reducible (show (_ : Int) < _); omega) | (with_reducible (show (_ : Nat) < _); omega) | (with_reducible (show (_ : Nat) ≤ _); omega) | with_reducible exact Or.inl rfl | with_reducible exact Or.inr rfl | with_reducible exact Or.inl trivial | with_reducible exact Or.inr trivial | (intro hz; exact absurd hz (by decide)) | (intro hz; exfalso; omega) | refine And.intro ?_ ?_ | intro _))
    · rename_i z1 _ z2 _ z3 z4 z5
      obtain ⟨x, l, e⟩ := ne J hC z3
      refine Qe (h J _ (Or.inr ⟨hz, hC⟩)) ?_
      rw [waS_c z1 z2 e, if_neg (by omega), if_neg z5]
      exact ((cc x l e J hC).2.2.1 w (by omega) (by omega)).symm
    · rename_i z1 _ z2 _ z3 z4 z5
      obtain ⟨x, l, e⟩ := ne J hC z3
      refine Qe (h J _ (Or.inr ⟨hz, hC⟩)) ?_
      rw [waS_c z1 z2 e, if_neg (by omega), if_pos z5]
      exact ((cc x l e J hC).1 w (by omega) (by omega)).symm
    · rename_i z1 _ z2 _ z3 z4 z5
      obtain ⟨x, l, e⟩ := ne J hC z3
      refine Qe (h J _ (Or.inr ⟨hz, hC⟩)) ?_
      rw [waS_c z1 z2 e, if_pos (by omega), if_neg z5]
      exact (cc x l e J hC).2.2.2.symm
    · rename_i z1 _ z2 _ z3 z4 z5
      obtain ⟨x, l, e⟩ := ne J hC z3
      refine Qe (h J _ (Or.inr ⟨hz, hC⟩)) ?_
      rw [waS_c z1 z2 e, if_pos (by omega), if_pos z5]
      exact (cc x l e J hC).2.1.symm
    · rename_i z1 _ z2 _ z3
      refine Qe (h J _ (Or.inr ⟨hz, hC⟩)) (waS_n z1 z2 ?_)
      cases e : allW (rd I 151) (abB (rd I 151) z0 (rd I 151 1) 0) with
      | nil => rfl
      | cons x l =>
        exfalso
        have := hC.1
        rw [e, List.length_cons] at this
        omega
    · rename_i z1 _ z2 _
      refine Qe (h I 0 (Or.inl rfl)) ?_
      unfold waS
      rw [if_neg (by omega), if_pos z2]
    · rename_i z1 _
      refine Qe (h I 0 (Or.inl rfl)) ?_
      unfold waS
      rw [if_pos z1]
