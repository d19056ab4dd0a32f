/-! must, sly, bears -/
def muS (N : Int → Int) (p : Int) : Int := if ¬ (0 ≤ p ∧ p < N 2) then -1000000001 else if dIn N p (allW N (abB N z0 (N 1) 0)) = 0 then 0 else if dIn N p (allW N (abB N z0 (N 1) 0)) = (allW N (abB N z0 (N 1) 0)).length then 2 else 1
theorem occ_0 {N w : Int → Int} {p : Int} (h : ∀ t, 0 ≤ t → t < N 3 → w t ≠ p) : ¬ 0 < occ N w p := by
  have key : ∀ s : Nat, (∀ t : Int, 0 ≤ t → t < s → w t ≠ p) → occN w p s = 0 := by
    intro s
    induction s with
    | zero => exact fun _ => rfl
    | succ s ih =>
      intro hs
      unfold occN
      rw [ih (fun t t0 t1 => hs t t0 (by omega)), if_neg (hs s (by omega) (by omega))]
      rfl
  unfold occ
  rw [key _ (fun t t0 t1 => h t t0 (by omega))]
  omega
theorem occ_1 {N w : Int → Int} {p : Int} (h : ¬ 0 < occ N w p) : ∀ t, 0 ≤ t → t < N 3 → w t ≠ p := by
  have key : ∀ s : Nat, ¬ 0 < occN w p s → ∀ t : Int, 0 ≤ t → t < s → w t ≠ p := by
    intro s
    induction s with
    | zero => intro _ t t0 t1; omega
    | succ s ih =>
      intro hs t t0 t1 e
      have hb := occN_b (W := w) (p := p) s
      unfold occN at hs
      by_cases e2 : t = s
      · rw [← e2, if_pos e] at hs
        omega
      · refine ih (by split at hs <;> omega) t t0 (by omega) e
  intro t t0 t1
  exact key _ h t t0 (by omega)
theorem dIn_all {N : Int → Int} {p : Int} : ∀ {L : List (Int → Int)}, (∀ w, w ∈ L → 0 < occ N w p) → dIn N p L = L.length
  | [], _ => rfl
  | w :: l, h => by
    unfold dIn
    rw [dIn_all (fun v hv => h v (List.mem_cons_of_mem _ hv)), if_pos (h w List.mem_cons_self), List.length_cons]
    omega
theorem dIn_lt {N : Int → Int} {p : Int} : ∀ {L : List (Int → Int)} {w : Int → Int}, w ∈ L → ¬ 0 < occ N w p → dIn N p L < L.length
  | v :: l, w, hw, ho => by
    have hb := dIn_b (N := N) (p := p) l
    unfold dIn
    rw [List.length_cons]
    rcases List.mem_cons.mp hw with e | e
    · rw [← e, if_neg ho]; omega
    · have := dIn_lt e ho
      split <;> omega
theorem dIn_0 {N : Int → Int} {p : Int} : ∀ {L : List (Int → Int)}, (dIn N p L = 0 ↔ ¬ 0 < mst N p L)
  | [] => ⟨fun _ => by show ¬ (0 : Int) < 0; omega, fun _ => rfl⟩
  | w :: l => by
    have ih := dIn_0 (N := N) (p := p) (L := l)
    have hb := dIn_b (N := N) (p := p) l
    unfold dIn mst
    split
    · constructor
      · omega
      · omega
    · rw [Int.add_zero, ih]
      omega
theorem no_p {N : Int → Int} (hN : Inv N) {day p : Int} : allW N (fun s q => abB N z0 day 0 s q && !decide (q = p)) = [] ↔ ∀ w, w ∈ allW N (abB N z0 day 0) → 0 < occ N w p := by
  have hH := hN.1
  unfold InvH at hH
  have key : ∀ w, w ∈ allW N (fun s q => abB N z0 day 0 s q && !decide (q = p)) ↔ w ∈ allW N (abB N z0 day 0) ∧ ∀ t, 0 ≤ t → t < 0 + ((N 3).toNat : Int) → (!decide (w t = p)) = true := fun w => wl_flt (by omega) (N 3).toNat 0 nb w
  constructor
  · intro h w hw
    by_cases e : 0 < occ N w p
    · exact e
    · exfalso
      have := (key w).mpr ⟨hw, fun t t0 t1 => by rw [decide_eq_false (occ_1 e t t0 (by omega))]; rfl⟩
      rw [h] at this
      cases this
  · intro h
    cases e : allW N (fun s q => abB N z0 day 0 s q && !decide (q = p)) with
    | nil => rfl
    | cons w l =>
      exfalso
      have := (key w).mp (by rw [e]; exact List.mem_cons_self)
      refine occ_0 (fun t t0 t1 e2 => ?_) (h w this.1)
      have q := this.2 t t0 (by omega)
      rw [decide_eq_true e2] at q
      exact absurd q (by decide)
theorem P_must {L : Nat} {xs : Nat → Int32} {n : Nat} (v : Int) : Pair L xs n 138 258 [.inl v] := by
  refine pair_sw (fun N => muS N v) (fun I S Q hR h => ?_) (fun I S Q hR h => ?_)
  · obtain ⟨hS, hO, ⟨hN, hCb⟩, hI, hTp, hWt, hSh, hSl, hMo, hCa, hBd⟩ := hR
    have hH := hN.1
    have hCH := hCb.1
    have hb : mB 21 := Or.inl rfl
    unfold InvH at hH
    unfold CbH at hCH
    have e13 : I 21 13 = rd I 151 1 := hCH.2.1
    by_cases hv : 0 ≤ v ∧ v < rd I 151 2
    · have hun : muS (rd I 151) v = if dIn (rd I 151) v (allW (rd I 151) (abB (rd I 151) z0 (rd I 151 1) 0)) = 0 then 0 else if dIn (rd I 151) v (allW (rd I 151) (abB (rd I 151) z0 (rd I 151 1) 0)) = (allW (rd I 151) (abB (rd I 151) z0 (rd I 151 1) 0)).length then 2 else 1 := by
        unfold muS
        rw [if_neg (by omega)]
      rw [hun] at h
      refine x_C false [.inr (1, 0, 20, 0), .inl v] [] 60 hS ⟨xok_w hS, trivial, trivial⟩ ?_
      (repeat' (first | rw [e13] | refine c_hasPerson hS hb _ ?_ ?_ ?_ ?_ | refine c_open1 hS hb hN hCb _ ?_ (fun J r hJ hO => ?_) | refine c_isAny hS hN hO _ ?_ (fun K x l hK hl hr => ?_) (fun K hK hl => ?_) | refine c_isAnyW hS hN (hO.fr hK) _ hv ?_ (fun A hA hl2 => ?_) (fun A hA hl2 => ?_) | refine c_mostBy hS hN (hO.fr (hK.tr hA)) _ hv ?_ (fun B hB => ?_) | refine c_oneIf _ ?_ ?_ | with_reducible assumption | with_reducible exact rfl | with_reducible exact trivial | (with_reducible (show (_ : Int) ≤ _); omega) | (with_reducible (show (_ : Int) < _); omega) | (with_reducible (show (_ : Nat) < _); omega) | (with_reducible (show (_ : Nat) ≤ _); omega) | with_reducible exact Or.inl rfl | with_reducible exact Or.inr rfl | with_reducible exact Or.inl trivial | with_reducible exact Or.inr trivial | (intro hz; exact absurd hz (by decide)) | (intro hz; exfalso; omega) | refine And.intro ?_ ?_ | intro _))
      · rename_i z _
        refine Qe (h B ((scrO hJ).tr (scrF ((hK.tr hA).tr hB)))) ?_
        rw [if_pos (dIn_0.mpr (by omega))]
      · rename_i z _
        refine Qe (h B ((scrO hJ).tr (scrF ((hK.tr hA).tr hB)))) ?_
        rw [if_neg (fun q => dIn_0.mp q (by omega)), if_neg (fun q => ?_)]
        refine hl2 ((no_p hN).mpr (fun w hw => ?_))
        by_cases e : 0 < occ (rd I 151) w v
        · exact e
        · have := dIn_lt hw e
          omega
      · have ha := dIn_all ((no_p hN).mp hl2)
        refine Qe (h A ((scrO hJ).tr (scrF (hK.tr hA)))) ?_
        rw [if_neg (by rw [ha, hl, List.length_cons]; omega), if_pos ha]
      · refine Qe (h K ((scrO hJ).tr (scrF hK))) ?_
        rw [hl]
        exact if_pos rfl
    · have hun : muS (rd I 151) v = -1000000001 := by
        unfold muS
        rw [if_pos hv]
      rw [hun] at h
      refine x_C false [.inr (1, 0, 20, 0), .inl v] [] 60 hS ⟨xok_w hS, trivial, trivial⟩ ?_
      (repeat' (first | refine c_hasPerson hS hb _ ?_ ?_ ?_ ?_ | with_reducible assumption | with_reducible exact rfl | with_reducible exact trivial | (with_reducible (show (_ : Int) ≤ _); omega) | (with_reducible (show (_ : Int) < _); omega) | (with_reducible (show (_ : Nat) < _); omega) | (with_reducible (show (_ : Nat) ≤ _); omega) | with_reducible exact Or.inl rfl | with_reducible exact Or.inr rfl | with_reducible exact Or.inl trivial | with_reducible exact Or.inr trivial | (intro hz; exact absurd hz (by decide)) | (intro hz; exfalso; omega) | refine And.intro ?_ ?_ | intro _))
      exact h I fr.refl
  · obtain ⟨hS, hO, ⟨hN, hCb⟩, hI, hTp, hWt, hSh, hSl, hMo, hCa, hBd⟩ := hR
    have hH := hN.1
    have hCH := hCb.1
    have hb : mB 21 := Or.inl rfl
    unfold InvH at hH
    unfold CbH at hCH
    refine x_C false [.inr (13, 0, 150, 0), .inl v] [] 60 hS ⟨xok_m hS, trivial, trivial⟩ ?_
    (repeat' (first | refine m_isPerson hS _ ?_ ?_ ?_ ?_ | refine m_sweeps hS hN hMo hCa _ ?_ (fun J hz hC => ?_) | with_reducible assumption | with_reducible exact rfl | with_reducible exact trivial | (with_reducible (show (_ : Int) ≤ _); omega) | (with_reducible (show (_ : Int) < _); omega) | (with_reducible (show (_ : Nat) < _); omega) | (with_reducible (show (_ : Nat) ≤ _); omega) | with_reducible exact Or.inl rfl | with_reducible exact Or.inr rfl | with_reducible exact Or.inl trivial | with_reducible exact Or.inr trivial | (intro hz; exact absurd hz (by decide)) | (intro hz; exfalso; omega) | refine And.intro ?_ ?_ | intro _))
    · rename_i z _ z1 z2
      have hv := (hC.2.2 v z.1 z.2).1
      refine Qe (h J _ (Or.inr ⟨hz, hC⟩)) ?_
      unfold muS
      rw [if_neg (by omega), ← hv, if_neg z1, ← hC.1, if_neg z2]
    · rename_i z _ z1 z2
      have hv := (hC.2.2 v z.1 z.2).1
      refine Qe (h J _ (Or.inr ⟨hz, hC⟩)) ?_
      unfold muS
      rw [if_neg (by omega), ← hv, if_neg z1, ← hC.1, if_pos z2]
    · rename_i z _ z1
      have hv := (hC.2.2 v z.1 z.2).1
      refine Qe (h J _ (Or.inr ⟨hz, hC⟩)) ?_
      unfold muS
      rw [if_neg (by omega), ← hv, if_pos z1]
    · rename_i z _
      refine Qe (h I 0 (Or.inl rfl)) ?_
      unfold muS
      rw [if_pos z]
def slS (N : Int → Int) (p : Int) : Int := if ¬ (0 ≤ p ∧ p < N 2) then -1000000001 else if (allW N (abB N z0 (N 1) 0)).isEmpty = true then -1000000005 else mst N p (allW N (abB N z0 (N 1) 0))
theorem P_sly {L : Nat} {xs : Nat → Int32} {n : Nat} (v : Int) : Pair L xs n 142 259 [.inl v] := by
  refine pair_sw (fun N => slS N v) (fun I S Q hR h => ?_) (fun I S Q hR h => ?_)
  · obtain ⟨hS, hO, ⟨hN, hCb⟩, hI, hTp, hWt, hSh, hSl, hMo, hCa, hBd⟩ := hR
    have hH := hN.1
    have hCH := hCb.1
    have hb : mB 21 := Or.inl rfl
    unfold InvH at hH
    unfold CbH at hCH
    have e13 : I 21 13 = rd I 151 1 := hCH.2.1
    by_cases hv : 0 ≤ v ∧ v < rd I 151 2
    · refine x_C false [.inr (1, 0, 20, 0), .inl v] [] 60 hS ⟨xok_w hS, trivial, trivial⟩ ?_
      (repeat' (first | rw [e13] | refine c_hasPerson hS hb _ ?_ ?_ ?_ ?_ | refine c_open1 hS hb hN hCb _ ?_ (fun J r hJ hO => ?_) | refine c_isAny hS hN hO _ ?_ (fun K x l hK hl hr => ?_) (fun K hK hl => ?_) | refine c_mostBy hS hN (hO.fr hK) _ hv ?_ (fun B hB => ?_) | with_reducible assumption | with_reducible exact rfl | with_reducible exact trivial | (with_reducible (show (_ : Int) ≤ _); omega) | (with_reducible (show (_ : Int) < _); omega) | (with_reducible (show (_ : Nat) < _); omega) | (with_reducible (show (_ : Nat) ≤ _); omega) | with_reducible exact Or.inl rfl | with_reducible exact Or.inr rfl | with_reducible exact Or.inl trivial | with_reducible exact Or.inr trivial | (intro hz; exact absurd hz (by decide)) | (intro hz; exfalso; omega) | refine And.intro ?_ ?_ | intro _))
      · refine Qe (h B ((scrO hJ).tr (scrF (hK.tr hB)))) ?_
        unfold slS
        rw [if_neg (by omega), if_neg (fun q => by rw [hl] at q; exact absurd q Bool.false_ne_true)]
      · refine Qe (h K ((scrO hJ).tr (scrF hK))) ?_
        unfold slS
        rw [if_neg (by omega), if_pos (by rw [hl]; rfl)]
    · refine x_C false [.inr (1, 0, 20, 0), .inl v] [] 60 hS ⟨xok_w hS, trivial, trivial⟩ ?_
      (repeat' (first | refine c_hasPerson hS hb _ ?_ ?_ ?_ ?_ | with_reducible assumption | with_reducible exact rfl | with_reducible exact trivial | (with_reducible (show (_ : Int) ≤ _); omega) | (with_reducible (show (_ : Int) < _); omega) | (with_reducible (show (_ : Nat) < _); omega) | (with_reducible (show (_ : Nat) ≤ _); omega) | with_reducible exact Or.inl rfl | with_reducible exact Or.inr rfl | with_reducible exact Or.inl trivial | with_reducible exact Or.inr trivial | (intro hz; exact absurd hz (by decide)) | (intro hz; exfalso; omega) | refine And.intro ?_ ?_ | intro _))
      refine Qe (h I fr.refl) ?_
      unfold slS
      rw [if_pos hv]
  · obtain ⟨hS, hO, ⟨hN, hCb⟩, hI, hTp, hWt, hSh, hSl, hMo, hCa, hBd⟩ := hR
    have hH := hN.1
    have hCH := hCb.1
    have hb : mB 21 := Or.inl rfl
    unfold InvH at hH
    unfold CbH at hCH
    refine x_C false [.inr (13, 0, 150, 0), .inl v] [] 60 hS ⟨xok_m hS, trivial, trivial⟩ ?_
    (repeat' (first | refine m_isPerson hS _ ?_ ?_ ?_ ?_ | refine m_sweeps hS hN hMo hCa _ ?_ (fun J hz hC => ?_) | with_reducible assumption | with_reducible exact rfl | with_reducible exact trivial | (with_reducible (show (_ : Int) ≤ _); omega) | (with_reducible (show (_ : Int) < _); omega) | (with_reducible (show (_ : Nat) < _); omega) | (with_reducible (show (_ : Nat) ≤ _); omega) | with_reducible exact Or.inl rfl | with_reducible exact Or.inr rfl | with_reducible exact Or.inl trivial | with_reducible exact Or.inr trivial | (intro hz; exact absurd hz (by decide)) | (intro hz; exfalso; omega) | refine And.intro ?_ ?_ | intro _))
    all_goals first
      | (rename_i z _ z1
         have hv := (hC.2.2 v z.1 z.2).2
         refine Qe (h J _ (Or.inr ⟨hz, hC⟩)) ?_
         unfold slS
         rw [if_neg (by omega), if_neg (fun q => z1 (by rw [hC.1, List.isEmpty_iff.mp q]; rfl)), ← hv])
      | (rename_i z _ z1
         refine Qe (h J _ (Or.inr ⟨hz, hC⟩)) ?_
         unfold slS
         have e : allW (rd I 151) (abB (rd I 151) z0 (rd I 151 1) 0) = [] := List.length_eq_zero_iff.mp (by have := hC.1; omega)
         rw [if_neg (by omega), if_pos (by rw [e]; rfl)])
      | (rename_i z _
         refine Qe (h I 0 (Or.inl rfl)) ?_
         unfold slS
         rw [if_pos z])
def beS (N : Int → Int) (v : Int) : Int := if ¬ (0 ≤ v ∧ v ≤ N 2) then -1000000001 else if fbr N z0 (N 1) v (sets N) 0 < 0 then 1 else 0
theorem P_bears {L : Nat} {xs : Nat → Int32} {n : Nat} (v : Int) : Pair L xs n 145 263 [.inl v] := by
  refine pair_ro (fun N _ => beS N v) (fun _ _ _ => rfl) (fun I S Q hR h => ?_) (fun I S Q hR h => ?_)
  · obtain ⟨hS, hO, ⟨hN, hCb⟩, hI, hTp, hWt, hSh, hSl, hMo, hCa, hBd⟩ := hR
    have hH := hN.1
    have hCH := hCb.1
    have hb : mB 21 := Or.inl rfl
    unfold InvH at hH
    unfold CbH at hCH
    have e13 : I 21 13 = rd I 151 1 := hCH.2.1
    have e1 : I 21 1 = rd I 151 2 := hCH.2.2.1
    refine x_C false [.inr (1, 0, 20, 0), .inl v] [] 60 hS ⟨xok_w hS, trivial, trivial⟩ ?_
    (repeat' (first | rw [e13] | rw [e1] | refine c_within _ _ _ ?_ ?_ | refine c_open1 hS hb hN hCb _ ?_ (fun J r hJ hO => ?_) | refine c_fbr hS hN hO _ ?_ (fun K hK => ?_) | refine c_oneIf _ ?_ ?_ | with_reducible assumption | with_reducible exact rfl | with_reducible exact trivial | (with_reducible (show (_ : Int) ≤ _); omega) | (with_reducible (show (_ : Int) < _); omega) | (with_reducible (show (_ : Nat) < _); omega) | (with_reducible (show (_ : Nat) ≤ _); omega) | with_reducible exact Or.inl rfl | with_reducible exact Or.inr rfl | with_reducible exact Or.inl trivial | with_reducible exact Or.inr trivial | (intro hz; exact absurd hz (by decide)) | (intro hz; exfalso; omega) | refine And.intro ?_ ?_ | intro _))
    all_goals first
      | (rename_i z _ z1 _
         refine Qe (h K ((scrO hJ).tr (scrF hK))) ?_
         unfold beS
         rw [if_neg (by omega)]
         first | rw [if_pos (by omega)] | rw [if_neg (by omega)])
      | (rename_i z _
         refine Qe (h I fr.refl) ?_
         unfold beS
         rw [if_pos z])
  · obtain ⟨hS, hO, ⟨hN, hCb⟩, hI, hTp, hWt, hSh, hSl, hMo, hCa, hBd⟩ := hR
    have hH := hN.1
    have hCH := hCb.1
    have hb : mB 21 := Or.inl rfl
    unfold InvH at hH
    unfold CbH at hCH
    have hM : fbr (rd I 151) (rd I 154) (rd I 151 1) v (sets (rd I 151)) 0 = fbr (rd I 151) z0 (rd I 151 1) v (sets (rd I 151)) 0 := fbr_M hN hMo _ _
    refine x_C false [.inr (13, 0, 150, 0), .inl v] [] 60 hS ⟨xok_m hS, trivial, trivial⟩ ?_
    (repeat' (first | refine c_in _ _ _ ?_ ?_ | refine m_bearsAny hS _ hN ?_ (fun hl J hJ => ?_) (fun hl J hJ => ?_) | with_reducible assumption | with_reducible exact rfl | with_reducible exact trivial | (with_reducible (show (_ : Int) ≤ _); omega) | (with_reducible (show (_ : Int) < _); omega) | (with_reducible (show (_ : Nat) < _); omega) | (with_reducible (show (_ : Nat) ≤ _); omega) | with_reducible exact Or.inl rfl | with_reducible exact Or.inr rfl | with_reducible exact Or.inl trivial | with_reducible exact Or.inr trivial | (intro hz; exact absurd hz (by decide)) | (intro hz; exfalso; omega) | refine And.intro ?_ ?_ | intro _))
    all_goals first
      | (rename_i z _ _
         refine Qe (h J (hJ.mo (fun a q => by unfold scr; omega))) ?_
         unfold beS
         rw [hM] at hl
         rw [if_neg (by omega)]
         first | rw [if_pos hl] | rw [if_neg hl])
      | (rename_i z _
         refine Qe (h I fr.refl) ?_
         unfold beS
         rw [if_pos z])
