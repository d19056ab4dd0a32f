/-! missing, soon -/
def msC (N : Int → Int) : Nat → Nat → Int
  | 0, _ => -1
  | m + 1, z => if 0 ≤ fbr N z0 (N 1) z (sets N) 0 then fbr N z0 (N 1) z (sets N) 0 else msC N m (z + 1)
def brP (N : Int → Int) (k : Nat) : Prop := allW N (abB N z0 (N 1) k) = []
theorem msC_MB {N : Int → Int} (hN : 0 ≤ N 2 ∧ N 2 ≤ 7) : ∀ m z : Nat, (z + m : Int) = N 2 + 1 → 1 ≤ z → (∀ k : Nat, 1 ≤ k → k < sets N → brP N k → (z : Int) ≤ pc7 k) → MB (brP N) 1 (sets N) (msC N m z)
  | 0, z, hz, z1, hs => by
    refine Or.inl ⟨rfl, fun k k0 k1 hk => ?_⟩
    have a := hs k k0 k1 hk
    have b := (pc_set (N 2).toNat (by omega) k k1).2
    omega
  | m + 1, z, hz, z1, hs => by
    rcases fbr_t (N := N) (M := z0) (day := N 1) (n := z) (sets N) 0 with ⟨h1, h2⟩ | ⟨i, h1, h2, h3, h4, h5⟩
    · have e : msC N (m + 1) z = msC N m (z + 1) := if_neg (by omega)
      rw [e]
      refine msC_MB hN m (z + 1) (by omega) (by omega) (fun k k0 k1 hk => ?_)
      have a := hs k k0 k1 hk
      by_cases e2 : pc7 k = z
      · exact absurd ⟨e2, hk⟩ (h2 k (by omega) (by omega))
      · omega
    · have e : msC N (m + 1) z = i := by
        have e1 : msC N (m + 1) z = fbr N z0 (N 1) z (sets N) 0 := if_pos (by omega)
        rw [e1, h1]
      rw [e]
      have i1 : 1 ≤ i := by
        rcases Nat.eq_zero_or_pos i with q | q
        · subst q
          have : pc7 ((0 : Nat) : Int) = 0 := by decide +kernel
          omega
        · exact q
      refine MB_x i1 (by omega) h4.2 (fun j j0 j1 hj => by have := hs j j0 j1 hj; omega) (fun j hj hP hp => h5 j (by omega) hj ⟨by omega, hP⟩)
def miS (N : Int → Int) : Int := if (allW N (abB N z0 (N 1) 0)).isEmpty = true then -1000000002 else if msC N (N 2).toNat 1 < 0 then -1000000005 else msC N (N 2).toNat 1
theorem msC_b {N : Int → Int} : ∀ m z, -1 ≤ msC N m z
  | 0, _ => Int.le_refl _
  | m + 1, z => by
    unfold msC
    split
    · omega
    · exact msC_b m (z + 1)
theorem P_missing {L : Nat} {xs : Nat → Int32} {n : Nat} : Pair L xs n 143 260 [] := by
  refine pair_ro (fun N _ => miS N) (fun _ _ _ => rfl) (fun I S Q hR h => ?_) (fun I S Q hR h => ?_)
  · obtain ⟨hS, hO, ⟨hN, hCb⟩, hI, hTp, hWt, hSh, hSl, hMo, hCa, hBd⟩ := hR
    have hH := hN.1
    have hCH := hCb.1
    have hb : mB 21 := Or.inl rfl
    unfold InvH at hH
    unfold CbH at hCH
    have e13 : I 21 13 = rd I 151 1 := hCH.2.1
    have e1 : I 21 1 = rd I 151 2 := hCH.2.2.1
    have loop : allW (rd I 151) (abB (rd I 151) z0 (rd I 151 1) 0) ≠ [] → ∀ m z : Nat, (z + m : Int) = rd I 151 2 + 1 → 1 ≤ z → ∀ (zz : Int) (w : Option xV) (J : mj_I), zz = z → fr scr I J → OS (rd I 151) (rd I 151 1) J → msC (rd I 151) m z = msC (rd I 151) (rd I 151 2).toNat 1 → xW 400 143 18 [some (.inr (1, 0, 20, 0)), some (.inl zz), w] [] J S Q := by
      intro hne m
      have hun : miS (rd I 151) = if msC (rd I 151) (rd I 151 2).toNat 1 < 0 then -1000000005 else msC (rd I 151) (rd I 151 2).toNat 1 := if_neg (fun q => hne (List.isEmpty_iff.mp q))
      rw [hun] at h
      induction m with
      | zero =>
        intro z hz z1 zz w J h1 hJ hO he
        have j1 : J 21 1 = rd I 151 2 := by rw [hJ.f (by unfold scr; omega)]; exact e1
        refine x_hd false [18] 30 ?_
        (repeat' (first | rw [j1] | with_reducible assumption | with_reducible exact rfl | with_reducible exact trivial | (with_reducible (show (_ : Int) ≤ _); omega) | (with_reducible (show (_ : Int) < _); omega) | (with_reducible (show (_ : Nat) < _); omega) | (with_reducible (show (_ : Nat) ≤ _); omega) | with_reducible exact Or.inl rfl | with_reducible exact Or.inr rfl | with_reducible exact Or.inl trivial | with_reducible exact Or.inr trivial | (intro hz; exact absurd hz (by decide)) | (intro hz; exfalso; omega) | refine And.intro ?_ ?_ | intro _))
        refine Qe (h J hJ) ?_
        rw [← he]
        rfl
      | succ m ih =>
        intro z hz z1 zz w J h1 hJ hO he
        subst h1
        have j1 : J 21 1 = rd I 151 2 := by rw [hJ.f (by unfold scr; omega)]; exact e1
        refine x_hd false [18] 30 ?_
        (repeat' (first | rw [j1] | refine c_fbr hS hN hO _ ?_ (fun K hK => ?_) | with_reducible assumption | with_reducible exact rfl | with_reducible exact trivial | (with_reducible (show (_ : Int) ≤ _); omega) | (with_reducible (show (_ : Int) < _); omega) | (with_reducible (show (_ : Nat) < _); omega) | (with_reducible (show (_ : Nat) ≤ _); omega) | with_reducible exact Or.inl rfl | with_reducible exact Or.inr rfl | with_reducible exact Or.inl trivial | with_reducible exact Or.inr trivial | (intro hz; exact absurd hz (by decide)) | (intro hz; exfalso; omega) | refine And.intro ?_ ?_ | intro _))
        · rename_i z1
          have e : msC (rd I 151) (m + 1) z = msC (rd I 151) m (z + 1) := if_neg (by omega)
          exact ih (z + 1) (by omega) (by omega) _ _ K (by omega) (hJ.tr (scrF hK)) (hO.fr hK) (by rw [← he, e])
        · rename_i z1
          have e : msC (rd I 151) (m + 1) z = fbr (rd I 151) z0 (rd I 151 1) z (sets (rd I 151)) 0 := if_pos (by omega)
          refine Qe (h K (hJ.tr (scrF hK))) ?_
          rw [← he, e, if_neg (by omega)]
    refine x_C false [.inr (1, 0, 20, 0)] [18] 60 hS ⟨xok_w hS, trivial⟩ ?_
    (repeat' (first | rw [e13] | refine c_open1 hS hb hN hCb _ ?_ (fun J r hJ hO => ?_) | refine c_isAny hS hN hO _ ?_ (fun K x l hK hl hr => ?_) (fun K hK hl => ?_) | with_reducible assumption | with_reducible exact rfl | with_reducible exact trivial | (with_reducible (show (_ : Int) ≤ _); omega) | (with_reducible (show (_ : Int) < _); omega) | (with_reducible (show (_ : Nat) < _); omega) | (with_reducible (show (_ : Nat) ≤ _); omega) | with_reducible exact Or.inl rfl | with_reducible exact Or.inr rfl | with_reducible exact Or.inl trivial | with_reducible exact Or.inr trivial | (intro hz; exact absurd hz (by decide)) | (intro hz; exfalso; omega) | refine And.intro ?_ ?_ | intro _))
    · exact loop (by rw [hl]; exact List.cons_ne_nil _ _) (rd I 151 2).toNat 1 (by omega) (by omega) _ _ K rfl ((scrO hJ).tr (scrF hK)) (hO.fr hK) rfl
    · refine Qe (h K ((scrO hJ).tr (scrF hK))) ?_
      unfold miS
      rw [if_pos (by rw [hl]; rfl)]
  · obtain ⟨hS, hO, ⟨hN, hCb⟩, hI, hTp, hWt, hSh, hSl, hMo, hCa, hBd⟩ := hR
    have hH := hN.1
    have hCH := hCb.1
    have hb : mB 21 := Or.inl rfl
    unfold InvH at hH
    unfold CbH at hCH
    obtain ⟨b1, b2⟩ := sets_b (N := rd I 151) (by omega)
    have hMB := msC_MB (N := rd I 151) (by omega) (rd I 151 2).toNat 1 (by omega) (by omega) (fun k k0 k1 _ => (pc_set (rd I 151 2).toNat (by omega) k k1).1 k0)
    have loop : allW (rd I 151) (abB (rd I 151) z0 (rd I 151 1) 0) ≠ [] → ∀ m k : Nat, k + m = sets (rd I 151) → 1 ≤ k → ∀ (kk best : Int) (J : mj_I), kk = k → fr scr I J → MB (brP (rd I 151)) 1 k best → xW 400 260 14 [some (.inr (13, 0, 150, 0)), some (.inl best), some (.inl kk)] [] J S Q := by
      intro hne m
      have hun : miS (rd I 151) = if msC (rd I 151) (rd I 151 2).toNat 1 < 0 then -1000000005 else msC (rd I 151) (rd I 151 2).toNat 1 := if_neg (fun q => hne (List.isEmpty_iff.mp q))
      rw [hun] at h
      induction m with
      | zero =>
        intro k hk k1 kk best J h1 hJ hB
        have e151 : rd J 151 = rd I 151 := hJ.r (by unfold scr; omega)
        have e : k = sets (rd I 151) := by omega
        subst e
        have eb : best = msC (rd I 151) (rd I 151 2).toNat 1 := MB_u hB hMB
        refine x_hd false [14] 30 ?_
        (repeat' (first | rw [e151] | rw [b1] | refine m_orNone _ ?_ | with_reducible assumption | with_reducible exact rfl | with_reducible exact trivial | (with_reducible (show (_ : Int) ≤ _); omega) | (with_reducible (show (_ : Int) < _); omega) | (with_reducible (show (_ : Nat) < _); omega) | (with_reducible (show (_ : Nat) ≤ _); omega) | with_reducible exact Or.inl rfl | with_reducible exact Or.inr rfl | with_reducible exact Or.inl trivial | with_reducible exact Or.inr trivial | (intro hz; exact absurd hz (by decide)) | (intro hz; exfalso; omega) | refine And.intro ?_ ?_ | intro _))
        refine Qe (h J hJ) ?_
        rw [eb]
      | succ m ih =>
        intro k hk k1 kk best J h1 hJ hB
        subst h1
        have e151 : rd J 151 = rd I 151 := hJ.r (by unfold scr; omega)
        have e154 : rd J 154 = rd I 154 := hJ.r (by unfold scr; omega)
        have hall : allW (rd J 151) (abB (rd J 151) (rd J 154) (rd J 151 1) k) = allW (rd I 151) (abB (rd I 151) z0 (rd I 151 1) k) := by rw [e151, e154]; exact all_M hN hMo _ _
        refine x_hd false [14] 40 ?_
        (repeat' (first | rw [e151] | rw [b1] | refine m_ones hS _ ?_ | refine m_hasWay hS _ _ (by rw [e151]; exact hN) ?_ (fun hl K hK => ?_) (fun hl K hK => ?_) | with_reducible assumption | with_reducible exact rfl | with_reducible exact trivial | (with_reducible (show (_ : Int) ≤ _); omega) | (with_reducible (show (_ : Int) < _); omega) | (with_reducible (show (_ : Nat) < _); omega) | (with_reducible (show (_ : Nat) ≤ _); omega) | with_reducible exact Or.inl rfl | with_reducible exact Or.inr rfl | with_reducible exact Or.inl trivial | with_reducible exact Or.inr trivial | (intro hz; exact absurd hz (by decide)) | (intro hz; exfalso; omega) | refine And.intro ?_ ?_ | intro _))
        · rw [e151, e154, all_M hN hMo] at hl
          exact ih (k + 1) (by omega) (by omega) _ _ K (by omega) (hJ.tr (hK.mo (fun a q => by unfold scr; omega))) (MB_n hB (Or.inl hl))
        · rw [e151, e154, all_M hN hMo] at hl
          exact ih (k + 1) (by omega) (by omega) _ _ K (by omega) (hJ.tr (hK.mo (fun a q => by unfold scr; omega))) (MB_t hB (by omega) hl (by omega))
        · exact ih (k + 1) (by omega) (by omega) _ _ J (by omega) hJ (MB_n hB (Or.inr ⟨by omega, by omega⟩))
        · rw [e151, e154, all_M hN hMo] at hl
          exact ih (k + 1) (by omega) (by omega) _ _ K (by omega) (hJ.tr (hK.mo (fun a q => by unfold scr; omega))) (MB_n hB (Or.inl hl))
        · rw [e151, e154, all_M hN hMo] at hl
          exact ih (k + 1) (by omega) (by omega) _ _ K (by omega) (hJ.tr (hK.mo (fun a q => by unfold scr; omega))) (MB_t hB (by omega) hl (by omega))
    refine x_C false [.inr (13, 0, 150, 0)] [14] 60 hS ⟨xok_m hS, trivial⟩ ?_
    (repeat' (first | refine m_hasWay hS _ _ hN ?_ (fun hl K hK => ?_) (fun hl K hK => ?_) | with_reducible assumption | with_reducible exact rfl | with_reducible exact trivial | (with_reducible (show (_ : Int) ≤ _); omega) | (with_reducible (show (_ : Int) < _); omega) | (with_reducible (show (_ : Nat) < _); omega) | (with_reducible (show (_ : Nat) ≤ _); omega) | with_reducible exact Or.inl rfl | with_reducible exact Or.inr rfl | with_reducible exact Or.inl trivial | with_reducible exact Or.inr trivial | (intro hz; exact absurd hz (by decide)) | (intro hz; exfalso; omega) | refine And.intro ?_ ?_ | intro _))
    · rw [all_M hN hMo] at hl
      exact loop hl (sets (rd I 151) - 1) 1 (by have : 1 ≤ sets (rd I 151) := Nat.one_le_two_pow; omega) (by omega) _ _ K rfl (hK.mo (fun a q => by unfold scr; omega)) MB_0
    · rw [all_M hN hMo] at hl
      refine Qe (h K (hK.mo (fun a q => by unfold scr; omega))) ?_
      unfold miS
      rw [if_pos (by rw [hl]; rfl)]
def soN (N : Int → Int) : Nat → Int → Int
  | 0, _ => -1000000005
  | m + 1, d => if 999 < d then -1000000005 else if (allW N (abB N z0 d 0)).isEmpty = true then soN N m (d + 1) else d
theorem soN_o {N : Int → Int} {d : Int} (h : 999 < d) : ∀ m, soN N m d = -1000000005
  | 0 => rfl
  | m + 1 => if_pos h
theorem all_cd {N : Int → Int} (hN : Inv N) {d e : Int} (h : ∀ u, 0 ≤ u → u < N 3 → cdS N d u = cdS N e u) : allW N (abB N z0 d 0) = allW N (abB N z0 e 0) := by
  have hH := hN.1
  unfold InvH at hH
  unfold allW
  refine agr_wl hN (fun _ _ => rfl) (fun s p s0 s1 p0 p1 => ?_) _ 0 nb (by omega) (by omega) (nb_b (by omega))
  rw [← cdS_t hN ⟨s0, s1⟩ ⟨p0, p1⟩, ← cdS_t hN ⟨s0, s1⟩ ⟨p0, p1⟩, h s s0 s1]
theorem P_soon {L : Nat} {xs : Nat → Int32} {n : Nat} : Pair L xs n 150 269 [] := by
  refine pair_ro (fun N _ => soN N 60 (N 1)) (fun _ _ _ => rfl) (fun I S Q hR h => ?_) (fun I S Q hR h => ?_)
  · obtain ⟨hS, hO, ⟨hN, hCb⟩, hI, hTp, hWt, hSh, hSl, hMo, hCa, hBd⟩ := hR
    have hH := hN.1
    have hCH := hCb.1
    have hb : mB 21 := Or.inl rfl
    unfold InvH at hH
    unfold CbH at hCH
    have e13 : I 21 13 = rd I 151 1 := hCH.2.1
    have loop : ∀ (m : Nat) (d : Int), rd I 151 1 ≤ d → d + m = rd I 151 1 + 60 → ∀ (la : Int) (w : Option xV) (J : mj_I), la = min (rd I 151 1 + 59) 999 → fr scr I J → (d = rd I 151 1 ∨ OS (rd I 151) (d - 1) J ∧ allW (rd I 151) (abB (rd I 151) z0 (d - 1) 0) = []) → soN (rd I 151) m d = soN (rd I 151) 60 (rd I 151 1) → xW 400 150 12 [some (.inr (1, 0, 20, 0)), some (.inl la), some (.inl d), w] [] J S Q := by
      intro m
      induction m with
      | zero =>
        intro d d0 d1 la w J hla hJ hp he
        refine x_hd false [12] 30 ?_
        (repeat' (first | with_reducible assumption | with_reducible exact rfl | with_reducible exact trivial | (with_reducible (show (_ : Int) ≤ _); omega) | (with_reducible (show (_ : Int) < _); omega) | (with_reducible (show (_ : Nat) < _); omega) | (with_reducible (show (_ : Nat) ≤ _); omega) | with_reducible exact Or.inl rfl | with_reducible exact Or.inr rfl | with_reducible exact Or.inl trivial | with_reducible exact Or.inr trivial | (intro hz; exact absurd hz (by decide)) | (intro hz; exfalso; omega) | refine And.intro ?_ ?_ | intro _))
        refine Qe (h J hJ) ?_
        rw [← he]
        rfl
      | succ m ih =>
        intro d d0 d1 la w J hla hJ hp he
        have j13 : J 21 13 = rd I 151 1 := by rw [hJ.f (by unfold scr; omega)]; exact e13
        have hCJ := hCb.fr hN.1 hJ (fun a q => bc_scr hb q)
        have s0 : ∀ (T : Int), soN (rd I 151) (m + 1) d = T → (999 < d → T = -1000000005) ∧ (¬ 999 < d → allW (rd I 151) (abB (rd I 151) z0 d 0) = [] → T = soN (rd I 151) m (d + 1)) ∧ (¬ 999 < d → allW (rd I 151) (abB (rd I 151) z0 d 0) ≠ [] → T = d) := by
          intro T hT
          unfold soN at hT
          refine ⟨fun z => by rw [if_pos z] at hT; exact hT.symm, fun z y => by rw [if_neg z, if_pos (List.isEmpty_iff.mpr y)] at hT; exact hT.symm, fun z y => by rw [if_neg z, if_neg (fun q => y (List.isEmpty_iff.mp q))] at hT; exact hT.symm⟩
        have kf : ∀ K, fr (fun a => (101 ≤ a ∧ a ≤ 107) ∨ a = 21 + 12 ∨ a = 21 + 13) J K → fr scr I K := fun K hK => hJ.tr (scrO hK)
        refine x_hd false [12] 40 ?_
        (repeat' (first | rw [j13] | refine c_open hS hb hN hCJ _ ?_ (fun K hK hO hsa => ?_) (fun K hK hO => ?_) | refine c_isAny hS hN hO _ ?_ (fun A x l hA hl hr => ?_) (fun A hA hl => ?_) | with_reducible assumption | with_reducible exact rfl | with_reducible exact trivial | (with_reducible (show (_ : Int) ≤ _); omega) | (with_reducible (show (_ : Int) < _); omega) | (with_reducible (show (_ : Nat) < _); omega) | (with_reducible (show (_ : Nat) ≤ _); omega) | with_reducible exact Or.inl rfl | with_reducible exact Or.inr rfl | with_reducible exact Or.inl trivial | with_reducible exact Or.inr trivial | (intro hz; exact absurd hz (by decide)) | (intro hz; exfalso; omega) | refine And.intro ?_ ?_ | intro _))
        · refine Qe (h J hJ) ?_
          rw [← he]
          exact (s0 _ rfl).1 (by omega)
        · refine Qe (h A ((kf K hK).tr (scrF hA))) ?_
          rw [← he]
          exact (s0 _ rfl).2.2 (by omega) (by rw [hl]; exact List.cons_ne_nil _ _)
        · refine ih (d + 1) (by omega) (by omega) _ _ A hla ((kf K hK).tr (scrF hA)) (Or.inr ?_) ?_
          · rw [show d + 1 - 1 = d by omega]; exact ⟨hO.fr hA, hl⟩
          · rw [← he]; exact ((s0 _ rfl).2.1 (by omega) hl).symm
        · rename_i _ z _
          have k13 : K 21 13 = rd I 151 1 := by rw [hK.f (by omega)]; exact j13
          rcases hp with hp | ⟨hp1, hp2⟩
          · omega
          · have hl : allW (rd I 151) (abB (rd I 151) z0 d 0) = [] := by
              rw [all_cd hN (d := d) (e := d - 1) (fun u u0 u1 => by rw [← hO.2.1 u u0 u1, ← hsa u u0 u1, hp1.2.1 u u0 u1])]
              exact hp2
            refine ih (d + 1) (by omega) (by omega) _ _ K hla (kf K hK) (Or.inr ?_) ?_
            · rw [show d + 1 - 1 = d by omega]; exact ⟨hO, hl⟩
            · rw [← he]; exact ((s0 _ rfl).2.1 (by omega) hl).symm
        · refine Qe (h A ((kf K hK).tr (scrF hA))) ?_
          rw [← he]
          exact (s0 _ rfl).2.2 (by omega) (by rw [hl]; exact List.cons_ne_nil _ _)
        · refine ih (d + 1) (by omega) (by omega) _ _ A hla ((kf K hK).tr (scrF hA)) (Or.inr ?_) ?_
          · rw [show d + 1 - 1 = d by omega]; exact ⟨hO.fr hA, hl⟩
          · rw [← he]; exact ((s0 _ rfl).2.1 (by omega) hl).symm
        · refine Qe (h A ((kf K hK).tr (scrF hA))) ?_
          rw [← he]
          exact (s0 _ rfl).2.2 (by omega) (by rw [hl]; exact List.cons_ne_nil _ _)
        · refine ih (d + 1) (by omega) (by omega) _ _ A hla ((kf K hK).tr (scrF hA)) (Or.inr ?_) ?_
          · rw [show d + 1 - 1 = d by omega]; exact ⟨hO.fr hA, hl⟩
          · rw [← he]; exact ((s0 _ rfl).2.1 (by omega) hl).symm
    refine x_C false [.inr (1, 0, 20, 0)] [12] 60 hS ⟨xok_w hS, trivial⟩ ?_
    (repeat' (first | rw [e13] | with_reducible assumption | with_reducible exact rfl | with_reducible exact trivial | (with_reducible (show (_ : Int) ≤ _); omega) | (with_reducible (show (_ : Int) < _); omega) | (with_reducible (show (_ : Nat) < _); omega) | (with_reducible (show (_ : Nat) ≤ _); omega) | with_reducible exact Or.inl rfl | with_reducible exact Or.inr rfl | with_reducible exact Or.inl trivial | with_reducible exact Or.inr trivial | (intro hz; exact absurd hz (by decide)) | (intro hz; exfalso; omega) | refine And.intro ?_ ?_ | intro _))
    exact loop 60 (I 21 13) (by omega) (by omega) _ _ I rfl fr.refl (Or.inl e13) (by rw [e13])
  · obtain ⟨hS, hO, ⟨hN, hCb⟩, hI, hTp, hWt, hSh, hSl, hMo, hCa, hBd⟩ := hR
    have hH := hN.1
    have hCH := hCb.1
    have hb : mB 21 := Or.inl rfl
    unfold InvH at hH
    unfold CbH at hCH
    have loop : ∀ (m : Nat) (d : Int), rd I 151 1 ≤ d → d + m = rd I 151 1 + 60 → ∀ (J : mj_I), fr scr I J → soN (rd I 151) m d = soN (rd I 151) 60 (rd I 151 1) → xW 400 269 5 [some (.inr (13, 0, 150, 0)), some (.inl d)] [] J S Q := by
      intro m
      induction m with
      | zero =>
        intro d d0 d1 J hJ he
        have e151 : rd J 151 = rd I 151 := hJ.r (by unfold scr; omega)
        refine x_hd false [5] 30 ?_
        (repeat' (first | rw [e151] | with_reducible assumption | with_reducible exact rfl | with_reducible exact trivial | (with_reducible (show (_ : Int) ≤ _); omega) | (with_reducible (show (_ : Int) < _); omega) | (with_reducible (show (_ : Nat) < _); omega) | (with_reducible (show (_ : Nat) ≤ _); omega) | with_reducible exact Or.inl rfl | with_reducible exact Or.inr rfl | with_reducible exact Or.inl trivial | with_reducible exact Or.inr trivial | (intro hz; exact absurd hz (by decide)) | (intro hz; exfalso; omega) | refine And.intro ?_ ?_ | intro _))
        refine Qe (h J hJ) ?_
        rw [← he]
        rfl
      | succ m ih =>
        intro d d0 d1 J hJ he
        have e151 : rd J 151 = rd I 151 := hJ.r (by unfold scr; omega)
        have e154 : rd J 154 = rd I 154 := hJ.r (by unfold scr; omega)
        have s0 : ∀ (T : Int), soN (rd I 151) (m + 1) d = T → (999 < d → T = -1000000005) ∧ (¬ 999 < d → allW (rd I 151) (abB (rd I 151) z0 d 0) = [] → T = soN (rd I 151) m (d + 1)) ∧ (¬ 999 < d → allW (rd I 151) (abB (rd I 151) z0 d 0) ≠ [] → T = d) := by
          intro T hT
          unfold soN at hT
          refine ⟨fun z => by rw [if_pos z] at hT; exact hT.symm, fun z y => by rw [if_neg z, if_pos (List.isEmpty_iff.mpr y)] at hT; exact hT.symm, fun z y => by rw [if_neg z, if_neg (fun q => y (List.isEmpty_iff.mp q))] at hT; exact hT.symm⟩
        refine x_hd false [5] 30 ?_
        (repeat' (first | rw [e151] | refine m_hasWay hS _ _ (by rw [e151]; exact hN) ?_ (fun hl K hK => ?_) (fun hl K hK => ?_) | with_reducible assumption | with_reducible exact rfl | with_reducible exact trivial | (with_reducible (show (_ : Int) ≤ _); omega) | (with_reducible (show (_ : Int) < _); omega) | (with_reducible (show (_ : Nat) < _); omega) | (with_reducible (show (_ : Nat) ≤ _); omega) | with_reducible exact Or.inl rfl | with_reducible exact Or.inr rfl | with_reducible exact Or.inl trivial | with_reducible exact Or.inr trivial | (intro hz; exact absurd hz (by decide)) | (intro hz; exfalso; omega) | refine And.intro ?_ ?_ | intro _))
        · refine Qe (h J hJ) ?_
          rw [← he]
          exact (s0 _ rfl).1 (by omega)
        · rw [e151, e154, all_M hN hMo] at hl
          refine Qe (h K (hJ.tr (hK.mo (fun a q => by unfold scr; omega)))) ?_
          rw [← he]
          exact (s0 _ rfl).2.2 (by omega) hl
        · rw [e151, e154, all_M hN hMo] at hl
          refine ih (d + 1) (by omega) (by omega) K (hJ.tr (hK.mo (fun a q => by unfold scr; omega))) ?_
          rw [← he]; exact ((s0 _ rfl).2.1 (by omega) hl).symm
    refine x_C false [.inr (13, 0, 150, 0)] [5] 60 hS ⟨xok_m hS, trivial⟩ ?_
    (repeat' (first | with_reducible assumption | with_reducible exact rfl | with_reducible exact trivial | (with_reducible (show (_ : Int) ≤ _); omega) | (with_reducible (show (_ : Int) < _); omega) | (with_reducible (show (_ : Nat) < _); omega) | (with_reducible (show (_ : Nat) ≤ _); omega) | with_reducible exact Or.inl rfl | with_reducible exact Or.inr rfl | with_reducible exact Or.inl trivial | with_reducible exact Or.inr trivial | (intro hz; exact absurd hz (by decide)) | (intro hz; exfalso; omega) | refine And.intro ?_ ?_ | intro _))
    exact loop 60 (rd I 151 1) (by omega) (by omega) I fr.refl rfl
