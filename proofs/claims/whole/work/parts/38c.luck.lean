/-! luck -/
def lzS (z : Int) : Int := mj_wr (mj_wr (z * 1103515245) + 12345)
def drZ (z : Int) : Nat → Int
  | 0 => z
  | p + 1 => lzS (drZ z p)
def drB (z : Int) : Nat → Int
  | 0 => 0
  | p + 1 => if (mj_ushr (drZ z (p + 1)) 8).tmod 4 = 0 then mj_or (drB z p) (mj_shl 1 p) else drB z p
theorem or_0 {x : Int} (h : mj_R x) : mj_or x 0 = x := mt_ext (mj_or_R _ _) h (fun i _ => by rw [mt_or, mt_0, Bool.or_false])
theorem drB_R (z : Int) : ∀ n, mj_R (drB z n)
  | 0 => by unfold drB mj_R; omega
  | n + 1 => by
    unfold drB
    split
    · exact mj_or_R _ _
    · exact drB_R z n
theorem mu_mu {I : mj_I} {a k : Nat} {x y : Int} : mj_up (mj_up I a k x) a k y = mj_up I a k y := by
  funext b j
  by_cases e : b = a ∧ j = k
  · obtain ⟨rfl, rfl⟩ := e
    rw [mj_up_s, mj_up_s]
  · rw [mu_f e, mu_f e, mu_f e]
theorem mu_id {I : mj_I} {a k : Nat} {x : Int} (h : I a k = x) : mj_up I a k x = I := by
  funext b j
  by_cases e : b = a ∧ j = k
  · obtain ⟨rfl, rfl⟩ := e
    rw [mj_up_s, h]
  · rw [mu_f e]
/-- 167 drawMissing -/
theorem c_draw {d : Nat} {I : mj_I} {S : mj_S} {Q : mj_Q} (hS : mk_Sh S) (n : Nat) (hn : n ≤ 7) (h1 : I 21 1 = n) (h : Q (some (.inl (drB (I 21 14) n))) (mj_up I 21 14 (drZ (I 21 14) n)) S) : mj_C d 167 [.inr 21] I S Q := by
  have loop : ∀ m k : Nat, k + m = n → ∀ (b kk : Int) (J : mj_I), kk = k → b = drB (I 21 14) k → J = mj_up I 21 14 (drZ (I 21 14) k) → xW d 167 4 [some (.inr (2, 21, 21, 0)), some (.inl b), some (.inl kk)] [] J S Q := by
    intro m
    induction m with
    | zero =>
      intro k hk b kk J g1 g2 g3
      have j1 : J 21 1 = n := by rw [g3, mu_f (by omega)]; exact h1
      have e : k = n := by omega
      subst e
      refine x_hd true [4] 30 ?_
      (repeat' (first | rw [j1] | with_reducible assumption | with_reducible exact rfl | with_reducible exact trivial | (with_reducible (show (_ : Int) ≤ _); omega) | (with_reducible (show (_ : Int) < _); omega) | (with_reducible (show (_ : Nat) < _); omega) | (with_reducible (show (_ : Nat) ≤ _); omega) | with_reducible exact Or.inl rfl | with_reducible exact Or.inr rfl | with_reducible exact Or.inl trivial | with_reducible exact Or.inr trivial | (intro hz; exact absurd hz (by decide)) | (intro hz; exfalso; omega) | refine And.intro ?_ ?_ | intro _))
      subst g3
      exact Qe h g2.symm
    | succ m ih =>
      intro k hk b kk J g1 g2 g3
      have j1 : J 21 1 = n := by rw [g3, mu_f (by omega)]; exact h1
      have j14 : J 21 14 = drZ (I 21 14) k := by rw [g3, mj_up_s]
      refine x_hd true [4] 40 ?_
      (repeat' (first | rw [j1] | with_reducible assumption | with_reducible exact rfl | with_reducible exact trivial | (with_reducible (show (_ : Int) ≤ _); omega) | (with_reducible (show (_ : Int) < _); omega) | (with_reducible (show (_ : Nat) < _); omega) | (with_reducible (show (_ : Nat) ≤ _); omega) | with_reducible exact Or.inl rfl | with_reducible exact Or.inr rfl | with_reducible exact Or.inl trivial | with_reducible exact Or.inr trivial | (intro hz; exact absurd hz (by decide)) | (intro hz; exfalso; omega) | refine And.intro ?_ ?_ | intro _))
      · rename_i z
        rw [mj_up_s, j14] at z
        refine ih (k + 1) (by omega) _ _ _ (by rw [mj_wr_s (by omega) (by omega)]; omega) ?_ (by rw [g3, mu_mu, mj_up_s]; rfl)
        have e : drB (I 21 14) (k + 1) = drB (I 21 14) k := (show (if (mj_ushr (drZ (I 21 14) (k + 1)) 8).tmod 4 = 0 then mj_or (drB (I 21 14) k) (mj_shl 1 k) else drB (I 21 14) k) = _ from if_neg z)
        rw [e, g2]
      · rename_i z
        rw [mj_up_s, j14] at z
        refine ih (k + 1) (by omega) _ _ _ (by rw [mj_wr_s (by omega) (by omega)]; omega) ?_ (by rw [g3, mu_mu, mj_up_s]; rfl)
        have e : drB (I 21 14) (k + 1) = mj_or (drB (I 21 14) k) (mj_shl 1 k) := (show (if (mj_ushr (drZ (I 21 14) (k + 1)) 8).tmod 4 = 0 then mj_or (drB (I 21 14) k) (mj_shl 1 k) else drB (I 21 14) k) = _ from if_pos z)
        rw [e, g2, g1]
  refine x_C true [.inr (2, 21, 21, 0)] [4] 30 hS ⟨xok_b hS (Or.inl rfl), trivial⟩ ?_
  (repeat' (first | with_reducible assumption | with_reducible exact rfl | with_reducible exact trivial | (with_reducible (show (_ : Int) ≤ _); omega) | (with_reducible (show (_ : Int) < _); omega) | (with_reducible (show (_ : Nat) < _); omega) | (with_reducible (show (_ : Nat) ≤ _); omega) | with_reducible exact Or.inl rfl | with_reducible exact Or.inr rfl | with_reducible exact Or.inl trivial | with_reducible exact Or.inr trivial | (intro hz; exact absurd hz (by decide)) | (intro hz; exfalso; omega) | refine And.intro ?_ ?_ | intro _))
  exact loop n 0 (by omega) _ _ _ rfl rfl (mu_id rfl).symm
def lkZ (n : Nat) (z : Int) : Nat → Int
  | 0 => z
  | k + 1 => drZ (lkZ n z k) n
def lkC (N : Int → Int) (z : Int) : Nat → Int
  | 0 => 0
  | k + 1 => lkC N z k + (if (allW N (abB N z0 (N 1) (drB (lkZ (N 2).toNat z k) (N 2).toNat))).isEmpty = true then 0 else 1)
theorem lkC_b {N : Int → Int} {z : Int} : ∀ k : Nat, 0 ≤ lkC N z k ∧ lkC N z k ≤ k
  | 0 => ⟨Int.le_refl 0, Int.le_refl 0⟩
  | k + 1 => by
    have := lkC_b (N := N) (z := z) k
    unfold lkC
    split <;> omega
theorem frz {I J : mj_I} {a b : Int} (h : fr scr (mj_up I 21 14 a) J) : fr scr (mj_up I 21 14 b) (mj_up J 21 14 b) := by
  intro c hc
  by_cases e : c = 21
  · subst e
    have := h 21 hc
    funext j
    by_cases e2 : j = 14
    · subst e2; rw [mj_up_s, mj_up_s]
    · rw [mu_f (by omega), mu_f (by omega), this, mu_f (by omega)]
  · rw [mu_o e, mu_o e, h c hc, mu_o e]
theorem ru_i {N : Int → Int} {j : Int} : ru N j (N j) = N := by
  funext i
  by_cases e : i = j
  · rw [e, ru_s]
  · rw [ru_n e]
theorem wl_mono {N : Int → Int} {B B' : Int → Int → Bool} (h : ∀ s p, B s p = true → B' s p = true) : ∀ (k : Nat) (s : Int) (W w : Int → Int), w ∈ wl N B k s W → w ∈ wl N B' k s W
  | 0, _, _, _, hw => hw
  | k + 1, s, W, w, hw => by
    unfold wl at hw ⊢
    obtain ⟨q, q0, q1, hq⟩ := wlp_mem hw
    refine wlp_in q0 q1 ?_
    by_cases z : B s q = true ∧ fitB N (ru W s q) s = true
    · have hq2 : w ∈ wl N B k (s + 1) (ru W s q) := by
        have e : (if B s q = true ∧ fitB N (ru W s q) s = true then wl N B k (s + 1) (ru W s q) else []) = wl N B k (s + 1) (ru W s q) := if_pos z
        exact e ▸ hq
      have e : (if B' s q = true ∧ fitB N (ru W s q) s = true then wl N B' k (s + 1) (ru W s q) else []) = wl N B' k (s + 1) (ru W s q) := if_pos ⟨h s q z.1, z.2⟩
      show w ∈ (if B' s q = true ∧ fitB N (ru W s q) s = true then wl N B' k (s + 1) (ru W s q) else [])
      rw [e]
      exact wl_mono h k _ _ w hq2
    · have e : (if B s q = true ∧ fitB N (ru W s q) s = true then wl N B k (s + 1) (ru W s q) else []) = [] := if_neg z
      have hq2 : w ∈ ([] : List (Int → Int)) := e ▸ hq
      cases hq2
theorem abB_mis {N M : Int → Int} {day mis s p : Int} (h : abB N M day mis s p = true) : abB N M day 0 s p = true := by
  unfold abB at h ⊢
  by_cases z : 0 ≤ N (64 + 4 * s + 3)
  · rw [if_pos z] at h ⊢
    exact h
  · rw [if_neg z, Bool.and_eq_true] at h ⊢
    exact ⟨by rw [mt_0]; rfl, h.2⟩
/-- those who are missing never add a way -/
theorem lk_no {N : Int → Int} {day mis : Int} (h : allW N (abB N z0 day 0) = []) : allW N (abB N z0 day mis) = [] := by
  cases e : allW N (abB N z0 day mis) with
  | nil => rfl
  | cons w l =>
    have hm : w ∈ allW N (abB N z0 day mis) := by rw [e]; exact List.mem_cons_self
    have hw : w ∈ allW N (abB N z0 day 0) := wl_mono (fun s p q => abB_mis q) _ _ _ w hm
    rw [h] at hw
    cases hw
theorem P_luck {L : Nat} {xs : Nat → Int32} {n : Nat} (v : Int) : Pair L xs n 166 281 [.inl v] := by
  by_cases hv : 1 ≤ v ∧ v ≤ 60
  · intro I S hn hR
    have hR0 := hR
    obtain ⟨hS, hO, ⟨hN, hCb⟩, hI, hTp, hWt, hSh, hSl, hMo, hCa, hBd⟩ := hR
    have hH := hN.1
    have hCH := hCb.1
    have hb : mB 21 := Or.inl rfl
    unfold InvH at hH
    unfold CbH at hCH
    have e13 : I 21 13 = rd I 151 1 := hCH.2.1
    have e1 : I 21 1 = rd I 151 2 := hCH.2.2.1
    have e14 : I 21 14 = rd I 151 0 := hCH.1
    obtain ⟨hIn, hCn⟩ := mu_z hN hCb (lkZ (rd I 151 2).toNat (rd I 151 0) v.toNat)
    refine pair_nb hn hR0 (lkC (rd I 151) (rd I 151 0) v.toNat) _ hIn (fun k hk => by rw [ru_n (by omega)]) (fun Q h => ?_) (fun K Q h151 h150 hKo h => ?_)
    · have loop : ∀ m k : Nat, (k + m : Int) = v → ∀ (aa c kk : Int) (w5 : Option xV) (J : mj_I), kk = k → c = lkC (rd I 151) (rd I 151 0) k → (∀ _ : Unit, aa = 0 → allW (rd I 151) (abB (rd I 151) z0 (rd I 151 1) 0) = []) → fr scr (mj_up I 21 14 (lkZ (rd I 151 2).toNat (rd I 151 0) k)) J → OS (rd I 151) (rd I 151 1) J → xW 400 166 25 [some (.inr (1, 0, 20, 0)), some (.inl v), some (.inl aa), some (.inl c), some (.inl kk), w5] [] J S Q := by
        intro m
        induction m with
        | zero =>
          intro k hk aa c kk w5 J g1 g2 haa hJ hO
          have e : v.toNat = k := by omega
          rw [e] at h hCn
          refine x_hd false [25] 30 ?_
          (repeat' (first | with_reducible assumption | with_reducible exact rfl | with_reducible exact trivial | (with_reducible (show (_ : Int) ≤ _); omega) | (with_reducible (show (_ : Int) < _); omega) | (with_reducible (show (_ : Nat) < _); omega) | (with_reducible (show (_ : Nat) ≤ _); omega) | with_reducible exact Or.inl rfl | with_reducible exact Or.inr rfl | with_reducible exact Or.inl trivial | with_reducible exact Or.inr trivial | (intro hz; exact absurd hz (by decide)) | (intro hz; exfalso; omega) | refine And.intro ?_ ?_ | intro _))
          refine Qe (h J (fun a ha => ?_) (hCn.fr hIn.1 hJ (fun a q => bc_scr hb q))) g2.symm
          rw [hJ a (fun q => ha (by unfold bk; exact Or.inr q)), mu_o (by unfold bk at ha; omega)]
        | succ m ih =>
          intro k hk aa c kk w5 J g1 g2 haa hJ hO
          have hcb := lkC_b (N := rd I 151) (z := rd I 151 0) k
          have j1 : J 21 1 = ((rd I 151 2).toNat : Nat) := by rw [hJ.f (by unfold scr; omega), mu_f (by omega)]; omega
          have j14 : J 21 14 = lkZ (rd I 151 2).toNat (rd I 151 0) k := by rw [hJ.f (by unfold scr; omega), mj_up_s]
          have hJ2 := frz (b := lkZ (rd I 151 2).toNat (rd I 151 0) (k + 1)) hJ
          have hO2 : OS (rd I 151) (rd I 151 1) (mj_up J 21 14 (lkZ (rd I 151 2).toNat (rd I 151 0) (k + 1))) := hO.g (fun a a0 a1 _ => mu_o (by omega))
          refine x_hd false [25] 40 ?_
          (repeat' (first | refine c_draw hS (rd I 151 2).toNat (by omega) j1 ?_ | (rw [j14]; refine c_isAny hS hN hO2 _ ?_ (fun A x l hA hl hr => ?_) (fun A hA hl => ?_)) | refine c_oneIf _ ?_ ?_ | with_reducible assumption | with_reducible exact rfl | with_reducible exact trivial | (with_reducible (show (_ : Int) ≤ _); omega) | (with_reducible (show (_ : Int) < _); omega) | (with_reducible (show (_ : Nat) < _); omega) | (with_reducible (show (_ : Nat) ≤ _); omega) | with_reducible exact Or.inl rfl | with_reducible exact Or.inr rfl | with_reducible exact Or.inl trivial | with_reducible exact Or.inr trivial | (intro hz; exact absurd hz (by decide)) | (intro hz; exfalso; omega) | refine And.intro ?_ ?_ | intro _))
          · have z : aa = 0 := by assumption
            rw [j14]
            refine ih (k + 1) (by omega) _ _ _ _ _ (by omega) ?_ haa hJ2 hO2
            show c + 0 = lkC (rd I 151) (rd I 151 0) k + (if (allW (rd I 151) (abB (rd I 151) z0 (rd I 151 1) (drB (lkZ (rd I 151 2).toNat (rd I 151 0) k) (rd I 151 2).toNat))).isEmpty = true then 0 else 1)
            rw [lk_no (haa () z), if_pos (show ([] : List (Int → Int)).isEmpty = true from rfl), g2]
          · refine ih (k + 1) (by omega) _ _ _ _ A (by omega) ?_ haa (hJ2.tr (scrF hA)) (hO2.fr hA)
            show c + 1 = lkC (rd I 151) (rd I 151 0) k + (if (allW (rd I 151) (abB (rd I 151) z0 (rd I 151 1) (drB (lkZ (rd I 151 2).toNat (rd I 151 0) k) (rd I 151 2).toNat))).isEmpty = true then 0 else 1)
            rw [hl, if_neg (show ¬ (x :: l).isEmpty = true from Bool.false_ne_true), g2]
          · refine ih (k + 1) (by omega) _ _ _ _ A (by omega) ?_ haa (hJ2.tr (scrF hA)) (hO2.fr hA)
            show c + 0 = lkC (rd I 151) (rd I 151 0) k + (if (allW (rd I 151) (abB (rd I 151) z0 (rd I 151 1) (drB (lkZ (rd I 151 2).toNat (rd I 151 0) k) (rd I 151 2).toNat))).isEmpty = true then 0 else 1)
            rw [hl, if_pos (show ([] : List (Int → Int)).isEmpty = true from rfl), g2]
      refine x_C false [.inr (1, 0, 20, 0), .inl v] [25] 60 hS ⟨xok_w hS, trivial, trivial⟩ ?_
      (repeat' (first | rw [e13] | refine c_within _ _ _ ?_ ?_ | refine c_open1 hS hb hN hCb _ ?_ (fun J r hJ hO => ?_) | refine c_isAny hS hN hO _ ?_ (fun A x l hA hl hr => ?_) (fun A hA hl => ?_) | with_reducible assumption | with_reducible exact rfl | with_reducible exact trivial | (with_reducible (show (_ : Int) ≤ _); omega) | (with_reducible (show (_ : Int) < _); omega) | (with_reducible (show (_ : Nat) < _); omega) | (with_reducible (show (_ : Nat) ≤ _); omega) | with_reducible exact Or.inl rfl | with_reducible exact Or.inr rfl | with_reducible exact Or.inl trivial | with_reducible exact Or.inr trivial | (intro hz; exact absurd hz (by decide)) | (intro hz; exfalso; omega) | refine And.intro ?_ ?_ | intro _))
      · refine loop v.toNat 0 (by omega) _ _ _ _ A rfl rfl (fun _ q => absurd q (by decide)) ?_ (hO.fr hA)
        rw [show lkZ (rd I 151 2).toNat (rd I 151 0) 0 = rd I 151 0 from rfl, mu_id e14]
        exact (scrO hJ).tr (scrF hA)
      · refine loop v.toNat 0 (by omega) _ _ _ _ A rfl rfl (fun _ _ => hl) ?_ (hO.fr hA)
        rw [show lkZ (rd I 151 2).toNat (rd I 151 0) 0 = rd I 151 0 from rfl, mu_id e14]
        exact (scrO hJ).tr (scrF hA)
    · have hMK : RM K := fun p p0 p1 => by rw [show rd K 154 = rd I 154 from rd_oo (hKo 154 (by omega) (by unfold scr; omega))]; exact hMo p p0 p1
      have hv2 : ∀ z, Inv (ru (rd I 151) 0 z) := fun z => (mu_z hN hCb z).1
      have hag : ∀ z mis, allW (ru (rd I 151) 0 z) (abB (ru (rd I 151) 0 z) z0 (rd I 151 1) mis) = allW (rd I 151) (abB (rd I 151) z0 (rd I 151 1) mis) := fun z mis => agr_all hN (fun k hk => by rw [ru_n (by omega)]) _ _
      have loop : ∀ m k : Nat, (k + m : Int) = v → ∀ (kk c : Int) (w4 w5 : Option xV) (J : mj_I), kk = k → c = lkC (rd I 151) (rd I 151 0) k → fr mk5 K J → rd J 151 = ru (rd I 151) 0 (lkZ (rd I 151 2).toNat (rd I 151 0) k) → J 150 = K 150 → xW 400 281 11 [some (.inr (13, 0, 150, 0)), some (.inl v), some (.inl c), some (.inl kk), w4, w5] [] J S Q := by
        intro m
        induction m with
        | zero =>
          intro k hk kk c w4 w5 J g1 g2 hJ g3 g4
          have e : v.toNat = k := by omega
          rw [e] at h
          refine x_hd true [11] 30 ?_
          (repeat' (first | with_reducible assumption | with_reducible exact rfl | with_reducible exact trivial | (with_reducible (show (_ : Int) ≤ _); omega) | (with_reducible (show (_ : Int) < _); omega) | (with_reducible (show (_ : Nat) < _); omega) | (with_reducible (show (_ : Nat) ≤ _); omega) | with_reducible exact Or.inl rfl | with_reducible exact Or.inr rfl | with_reducible exact Or.inl trivial | with_reducible exact Or.inr trivial | (intro hz; exact absurd hz (by decide)) | (intro hz; exfalso; omega) | refine And.intro ?_ ?_ | intro _))
          exact Qe (h J hJ g3 g4) g2.symm
        | succ m ih =>
          intro k hk kk c w4 w5 J g1 g2 hJ g3 g4
          have hcb := lkC_b (N := rd I 151) (z := rd I 151 0) k
          have inner : ∀ x p : Nat, (p + x : Int) = rd I 151 2 → ∀ (b pp : Int) (A : mj_I), pp = p → b = drB (lkZ (rd I 151 2).toNat (rd I 151 0) k) p → fr mk5 K A → rd A 151 = ru (rd I 151) 0 (drZ (lkZ (rd I 151 2).toNat (rd I 151 0) k) p) → A 150 = K 150 → xW 400 281 18 [some (.inr (13, 0, 150, 0)), some (.inl v), some (.inl c), some (.inl kk), some (.inl b), some (.inl pp)] [] A S Q := by
            intro x
            induction x with
            | zero =>
              intro p hp b pp A f1 f2 hA f3 f4
              have a2 : rd A 151 2 = rd I 151 2 := by rw [f3, ru_n (by omega)]
              have a1 : rd A 151 1 = rd I 151 1 := by rw [f3, ru_n (by omega)]
              have e : (rd I 151 2).toNat = p := by omega
              have hMA : ∀ q, 0 ≤ q → q < 7 → rd A 154 q = 0 := fun q q0 q1 => by rw [hA.r (by unfold mk5 scr; omega)]; exact hMK q q0 q1
              have nxt : ∀ (B : mj_I) (c2 : Int) (w4 w5 : Option xV), fr (fun a => a = 155 ∨ a = 162 ∨ a = 163 ∨ a = 164) A B → c2 = lkC (rd I 151) (rd I 151 0) (k + 1) → xW 400 281 11 [some (.inr (13, 0, 150, 0)), some (.inl v), some (.inl (mj_wr c2)), some (.inl (mj_wr (kk + 1))), w4, w5] [] B S Q := by
                intro B c2 w4 w5 hB hc2
                have hcb2 := lkC_b (N := rd I 151) (z := rd I 151 0) (k + 1)
                refine ih (k + 1) (by omega) _ _ _ _ B (by rw [mj_wr_s (by omega) (by omega)]; omega) (by rw [mj_wr_s (by omega) (by omega)]; exact hc2) (hA.tr (hB.mo (fun a q => by unfold mk5 scr; omega))) ?_ (by rw [hB 150 (by omega), f4])
                rw [hB.r (by omega), f3, ← e]
                rfl
              refine x_hd true [11, 18] 40 ?_
              (repeat' (first | rw [a2] | rw [a1] | refine m_hasWay hS _ _ (by rw [f3]; exact hv2 _) ?_ (fun hl B hB => ?_) (fun hl B hB => ?_) | with_reducible assumption | with_reducible exact rfl | with_reducible exact trivial | (with_reducible (show (_ : Int) ≤ _); omega) | (with_reducible (show (_ : Int) < _); omega) | (with_reducible (show (_ : Nat) < _); omega) | (with_reducible (show (_ : Nat) ≤ _); omega) | with_reducible exact Or.inl rfl | with_reducible exact Or.inr rfl | with_reducible exact Or.inl trivial | with_reducible exact Or.inr trivial | (intro hz; exact absurd hz (by decide)) | (intro hz; exfalso; omega) | refine And.intro ?_ ?_ | intro _))
              · rw [f3, all_M (hv2 _) hMA, hag, f2, ← e] at hl
                refine nxt B (c + 1) _ _ hB ?_
                show c + 1 = lkC (rd I 151) (rd I 151 0) k + (if (allW (rd I 151) (abB (rd I 151) z0 (rd I 151 1) (drB (lkZ (rd I 151 2).toNat (rd I 151 0) k) (rd I 151 2).toNat))).isEmpty = true then 0 else 1)
                rw [if_neg (fun q => hl (List.isEmpty_iff.mp q)), g2]
              · rw [f3, all_M (hv2 _) hMA, hag, f2, ← e] at hl
                refine nxt B (c + 0) _ _ hB ?_
                show c + 0 = lkC (rd I 151) (rd I 151 0) k + (if (allW (rd I 151) (abB (rd I 151) z0 (rd I 151 1) (drB (lkZ (rd I 151 2).toNat (rd I 151 0) k) (rd I 151 2).toNat))).isEmpty = true then 0 else 1)
                rw [hl, if_pos (show ([] : List (Int → Int)).isEmpty = true from rfl), g2]
            | succ x ihx =>
              intro p hp b pp A f1 f2 hA f3 f4
              have a2 : rd A 151 2 = rd I 151 2 := by rw [f3, ru_n (by omega)]
              have a0 : rd A 151 0 = drZ (lkZ (rd I 151 2).toNat (rd I 151 0) k) p := by rw [f3, ru_s]
              have hf : ∀ z, rd (up A 151 0 z) 151 = ru (rd I 151) 0 z := fun z => by rw [rd_up (by omega) (by omega), f3, ru_ru]
              have h5 : ∀ z, fr mk5 K (up A 151 0 z) := fun z => hA.up (Or.inr (Or.inl rfl)) _ _
              refine x_hd true [11, 18] 40 ?_
              (repeat' (first | rw [a2] | with_reducible assumption | with_reducible exact rfl | with_reducible exact trivial | (with_reducible (show (_ : Int) ≤ _); omega) | (with_reducible (show (_ : Int) < _); omega) | (with_reducible (show (_ : Nat) < _); omega) | (with_reducible (show (_ : Nat) ≤ _); omega) | with_reducible exact Or.inl rfl | with_reducible exact Or.inr rfl | with_reducible exact Or.inl trivial | with_reducible exact Or.inr trivial | (intro hz; exact absurd hz (by decide)) | (intro hz; exfalso; omega) | refine And.intro ?_ ?_ | intro _))
              · rename_i z
                rw [hf, ru_s, a0] at z
                refine ihx (p + 1) (by omega) _ _ _ (by rw [mj_wr_s (by omega) (by omega)]; omega) ?_ (h5 _) (by rw [hf, a0]; rfl) (by rw [up_o (by omega)]; exact f4)
                have e : drB (lkZ (rd I 151 2).toNat (rd I 151 0) k) (p + 1) = drB (lkZ (rd I 151 2).toNat (rd I 151 0) k) p := (show (if (mj_ushr (drZ (lkZ (rd I 151 2).toNat (rd I 151 0) k) (p + 1)) 8).tmod 4 = 0 then mj_or (drB (lkZ (rd I 151 2).toNat (rd I 151 0) k) p) (mj_shl 1 p) else drB (lkZ (rd I 151 2).toNat (rd I 151 0) k) p) = _ from if_neg z)
                rw [e, f2, or_0 (drB_R _ _)]
              · rename_i z
                rw [hf, ru_s, a0] at z
                refine ihx (p + 1) (by omega) _ _ _ (by rw [mj_wr_s (by omega) (by omega)]; omega) ?_ (h5 _) (by rw [hf, a0]; rfl) (by rw [up_o (by omega)]; exact f4)
                have e : drB (lkZ (rd I 151 2).toNat (rd I 151 0) k) (p + 1) = mj_or (drB (lkZ (rd I 151 2).toNat (rd I 151 0) k) p) (mj_shl 1 p) := (show (if (mj_ushr (drZ (lkZ (rd I 151 2).toNat (rd I 151 0) k) (p + 1)) 8).tmod 4 = 0 then mj_or (drB (lkZ (rd I 151 2).toNat (rd I 151 0) k) p) (mj_shl 1 p) else drB (lkZ (rd I 151 2).toNat (rd I 151 0) k) p) = _ from if_pos z)
                rw [e, f2, f1]
          refine x_hd true [11, 18] 30 ?_
          (repeat' (first | with_reducible assumption | with_reducible exact rfl | with_reducible exact trivial | (with_reducible (show (_ : Int) ≤ _); omega) | (with_reducible (show (_ : Int) < _); omega) | (with_reducible (show (_ : Nat) < _); omega) | (with_reducible (show (_ : Nat) ≤ _); omega) | with_reducible exact Or.inl rfl | with_reducible exact Or.inr rfl | with_reducible exact Or.inl trivial | with_reducible exact Or.inr trivial | (intro hz; exact absurd hz (by decide)) | (intro hz; exfalso; omega) | refine And.intro ?_ ?_ | intro _))
          exact inner (rd I 151 2).toNat 0 (by omega) _ _ J rfl rfl hJ g3 g4
      refine x_C true [.inr (13, 0, 150, 0), .inl v] [11] 60 hS ⟨xok_m hS, trivial, trivial⟩ ?_
      (repeat' (first | refine c_in _ _ _ ?_ ?_ | with_reducible assumption | with_reducible exact rfl | with_reducible exact trivial | (with_reducible (show (_ : Int) ≤ _); omega) | (with_reducible (show (_ : Int) < _); omega) | (with_reducible (show (_ : Nat) < _); omega) | (with_reducible (show (_ : Nat) ≤ _); omega) | with_reducible exact Or.inl rfl | with_reducible exact Or.inr rfl | with_reducible exact Or.inl trivial | with_reducible exact Or.inr trivial | (intro hz; exact absurd hz (by decide)) | (intro hz; exfalso; omega) | refine And.intro ?_ ?_ | intro _))
      refine loop v.toNat 0 (by omega) _ _ _ _ K rfl rfl fr.refl ?_ rfl
      rw [h151]
      exact (ru_i).symm
  · refine pair_ro (fun _ _ => -1000000001) (fun _ _ _ => rfl) (fun I S Q hR h => ?_) (fun I S Q hR h => ?_)
    · obtain ⟨hS, hO, ⟨hN, hCb⟩, hI, hTp, hWt, hSh, hSl, hMo, hCa, hBd⟩ := hR
      have hH := hN.1
      have hCH := hCb.1
      have hb : mB 21 := Or.inl rfl
      unfold InvH at hH
      unfold CbH at hCH
      refine x_C false [.inr (1, 0, 20, 0), .inl v] [] 60 hS ⟨xok_w hS, trivial, trivial⟩ ?_
      (repeat' (first | refine c_within _ _ _ ?_ ?_ | with_reducible assumption | with_reducible exact rfl | with_reducible exact trivial | (with_reducible (show (_ : Int) ≤ _); omega) | (with_reducible (show (_ : Int) < _); omega) | (with_reducible (show (_ : Nat) < _); omega) | (with_reducible (show (_ : Nat) ≤ _); omega) | with_reducible exact Or.inl rfl | with_reducible exact Or.inr rfl | with_reducible exact Or.inl trivial | with_reducible exact Or.inr trivial | (intro hz; exact absurd hz (by decide)) | (intro hz; exfalso; omega) | refine And.intro ?_ ?_ | intro _))
      exact h I fr.refl
    · obtain ⟨hS, hO, ⟨hN, hCb⟩, hI, hTp, hWt, hSh, hSl, hMo, hCa, hBd⟩ := hR
      have hH := hN.1
      have hCH := hCb.1
      have hb : mB 21 := Or.inl rfl
      unfold InvH at hH
      unfold CbH at hCH
      refine x_C false [.inr (13, 0, 150, 0), .inl v] [] 60 hS ⟨xok_m hS, trivial, trivial⟩ ?_
      (repeat' (first | refine c_in _ _ _ ?_ ?_ | with_reducible assumption | with_reducible exact rfl | with_reducible exact trivial | (with_reducible (show (_ : Int) ≤ _); omega) | (with_reducible (show (_ : Int) < _); omega) | (with_reducible (show (_ : Nat) < _); omega) | (with_reducible (show (_ : Nat) ≤ _); omega) | with_reducible exact Or.inl rfl | with_reducible exact Or.inr rfl | with_reducible exact Or.inl trivial | with_reducible exact Or.inr trivial | (intro hz; exact absurd hz (by decide)) | (intro hz; exfalso; omega) | refine And.intro ?_ ?_ | intro _))
      exact h I fr.refl
