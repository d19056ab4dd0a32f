/-! teach: offers, isTaughtEnough -/
theorem up_i {I : mj_I} {a k : Nat} {j x : Int} (h : k ≠ j.toNat) : up I a j x a k = I a k := if_neg (fun q => h q.2)
theorem moN_0 {N : Int → Int} : ∀ (k : Nat) (p : Int), moN N 0 k p = 0
  | 0, _ => rfl
  | k + 1, p => by
    unfold moN
    rw [mt_0, if_neg (by decide)]
    exact moN_0 k p
/-- 268 offers -/
theorem m_offers {d : Nat} {I : mj_I} {S : mj_S} {Q : mj_Q} (hS : mk_Sh S) (hN : Inv (rd I 151)) (x : Int) (h : ∀ J, fr (fun a => a = 154) I J → (∀ k : Nat, 7 ≤ k → J 154 k = I 154 k) → (∀ p, 0 ≤ p → p < 7 → rd J 154 p = moN (rd I 151) x (rd I 151 6).toNat p) → Q none J S) : mj_C d 268 [.inr 150, .inl x] I S Q := by
  have hH := hN.1
  unfold InvH at hH
  have loop2 : ∀ m k : Nat, (k + m : Int) = rd I 151 6 → ∀ (kk : Int) (J : mj_I), kk = k → fr (fun a => a = 154) I J → (∀ k : Nat, 7 ≤ k → J 154 k = I 154 k) → (∀ p, 0 ≤ p → p < 7 → rd J 154 p = moN (rd I 151) x k p) → xW d 268 14 [some (.inr (13, 0, 150, 0)), some (.inl x), some (.inl kk)] [] J S Q := by
    intro m
    induction m with
    | zero =>
      intro k hk kk J g1 hJ g2 g3
      have e151 : rd J 151 = rd I 151 := hJ.r (by omega)
      refine x_hd false [14] 30 ?_
      (repeat' (first | rw [e151] | with_reducible assumption | with_reducible exact rfl | with_reducible exact trivial | (with_reducible (show (_ : Int) ≤ _); omega) | (with_reducible (show (_ : Int) < _); omega) | (with_reducible (show (_ : Nat) < _); omega) | (with_reducible (show (_ : Nat) ≤ _); omega) | with_reducible exact Or.inl rfl | with_reducible exact Or.inr rfl | with_reducible exact Or.inl trivial | with_reducible exact Or.inr trivial | (intro hz; exact absurd hz (by decide)) | (intro hz; exfalso; omega) | refine And.intro ?_ ?_ | intro _))
      rw [show (rd I 151 6).toNat = k by omega] at h
      exact h J hJ g2 g3
    | succ m ih =>
      intro k hk kk J g1 hJ g2 g3
      subst g1
      have e151 : rd J 151 = rd I 151 := hJ.r (by omega)
      have hO := hN.2.2.2.2.1 k (by omega) (by omega)
      unfold InvO at hO
      have hask := mj_ask1 x (p := k) (by omega)
      have hR := moN_R (N := rd I 151) (x := x) k (rd I 151 (136 + 2 * (k : Int)))
      have gp := g3 (rd I 151 (136 + 2 * (k : Int))) (by omega) (by omega)
      have nxt : ∀ z, (∀ p, 0 ≤ p → p < 7 → ru (rd J 154) (rd I 151 (136 + 2 * (k : Int))) z p = moN (rd I 151) x (k + 1) p) → xW d 268 14 [some (.inr (13, 0, 150, 0)), some (.inl x), some (.inl ((k : Int) + 1))] [] (up J 154 (rd I 151 (136 + 2 * (k : Int))) z) S Q := by
        intro z hz
        refine ih (k + 1) (by omega) _ _ (by omega) (hJ.up rfl _ _) (fun i hi => by rw [up_i (by omega)]; exact g2 i hi) (fun p p0 p1 => ?_)
        rw [rd_up (by omega) (by omega)]
        exact hz p p0 p1
      refine x_hd false [14] 60 ?_
      (repeat' (first | rw [e151] | with_reducible assumption | with_reducible exact rfl | with_reducible exact trivial | (with_reducible (show (_ : Int) ≤ _); omega) | (with_reducible (show (_ : Int) < _); omega) | (with_reducible (show (_ : Nat) < _); omega) | (with_reducible (show (_ : Nat) ≤ _); omega) | with_reducible exact Or.inl rfl | with_reducible exact Or.inr rfl | with_reducible exact Or.inl trivial | with_reducible exact Or.inr trivial | (intro hz; exact absurd hz (by decide)) | (intro hz; exfalso; omega) | refine And.intro ?_ ?_ | intro _))
      · rename_i z
        refine nxt _ (fun p p0 p1 => ?_)
        unfold moN
        rw [if_neg (fun q => z (hask.mpr q)), gp, or_0 hR]
        by_cases e : p = rd I 151 (136 + 2 * (k : Int))
        · rw [e, ru_s]
        · rw [ru_n e]; exact g3 p p0 p1
      · rename_i z
        refine nxt _ (fun p p0 p1 => ?_)
        unfold moN
        rw [if_pos (hask.mp z), gp]
        by_cases e : p = rd I 151 (136 + 2 * (k : Int))
        · rw [e, ru_s, ru_s]
        · rw [ru_n e, ru_n e]; exact g3 p p0 p1
  have loop1 : ∀ (m : Nat) (p : Int), 0 ≤ p → p + m = 7 → ∀ (J : mj_I), fr (fun a => a = 154) I J → (∀ k : Nat, 7 ≤ k → J 154 k = I 154 k) → (∀ q, 0 ≤ q → q < p → rd J 154 q = 0) → xW d 268 2 [some (.inr (13, 0, 150, 0)), some (.inl x), some (.inl p)] [] J S Q := by
    intro m
    induction m with
    | zero =>
      intro p p0 p1 J hJ g2 g3
      refine x_hd false [2, 14] 30 ?_
      (repeat' (first | with_reducible assumption | with_reducible exact rfl | with_reducible exact trivial | (with_reducible (show (_ : Int) ≤ _); omega) | (with_reducible (show (_ : Int) < _); omega) | (with_reducible (show (_ : Nat) < _); omega) | (with_reducible (show (_ : Nat) ≤ _); omega) | with_reducible exact Or.inl rfl | with_reducible exact Or.inr rfl | with_reducible exact Or.inl trivial | with_reducible exact Or.inr trivial | (intro hz; exact absurd hz (by decide)) | (intro hz; exfalso; omega) | refine And.intro ?_ ?_ | intro _))
      exact loop2 (rd I 151 6).toNat 0 (by omega) _ J rfl hJ g2 (fun q q0 q1 => g3 q q0 (by omega))
    | succ m ih =>
      intro p p0 p1 J hJ g2 g3
      refine x_hd false [2, 14] 30 ?_
      (repeat' (first | with_reducible assumption | with_reducible exact rfl | with_reducible exact trivial | (with_reducible (show (_ : Int) ≤ _); omega) | (with_reducible (show (_ : Int) < _); omega) | (with_reducible (show (_ : Nat) < _); omega) | (with_reducible (show (_ : Nat) ≤ _); omega) | with_reducible exact Or.inl rfl | with_reducible exact Or.inr rfl | with_reducible exact Or.inl trivial | with_reducible exact Or.inr trivial | (intro hz; exact absurd hz (by decide)) | (intro hz; exfalso; omega) | refine And.intro ?_ ?_ | intro _))
      refine ih (p + 1) (by omega) (by omega) _ (hJ.up rfl _ _) (fun i hi => by rw [up_i (by omega)]; exact g2 i hi) (fun q q0 q1 => ?_)
      rw [rd_up (by omega) (by omega)]
      by_cases e : q = p
      · rw [e, ru_s]
      · rw [ru_n e]; exact g3 q q0 (by omega)
  refine x_C false [.inr (13, 0, 150, 0), .inl x] [2] 30 hS ⟨xok_m hS, trivial, trivial⟩ ?_
  (repeat' (first | with_reducible assumption | with_reducible exact rfl | with_reducible exact trivial | (with_reducible (show (_ : Int) ≤ _); omega) | (with_reducible (show (_ : Int) < _); omega) | (with_reducible (show (_ : Nat) < _); omega) | (with_reducible (show (_ : Nat) ≤ _); omega) | with_reducible exact Or.inl rfl | with_reducible exact Or.inr rfl | with_reducible exact Or.inl trivial | with_reducible exact Or.inr trivial | (intro hz; exact absurd hz (by decide)) | (intro hz; exfalso; omega) | refine And.intro ?_ ?_ | intro _))
  exact loop1 7 0 (by omega) (by omega) I fr.refl (fun _ _ => rfl) (fun q q0 q1 => by omega)
/-- what is changed on the way -/
def teX (a : Nat) : Prop := a = 121 ∨ (36 ≤ a ∧ a ≤ 42)
def teF (N : Int → Int) (I J : mj_I) : Prop := fr teX I J ∧ (∀ a k, 36 ≤ a → a ≤ 42 → k ≠ 3 → J a k = I a k) ∧ (∀ p, N 2 ≤ p → p < 7 → 0 ≤ p → J (21 + 15 + p.toNat) = I (21 + 15 + p.toNat)) ∧ ∀ p, 0 ≤ p → p < N 2 → rd J 121 p = N (8 + 8 * p + 3)
/-- 149 isTaughtEnough -/
theorem c_taught {d : Nat} {I : mj_I} {S : mj_S} {Q : mj_Q} (hS : mk_Sh S) {N : Int → Int} (hN : Inv N) (hC : Cb I S 21 N) (x : Nat) (hx : x < 64) (hd : 11 < d)
    (hT : tpP N x → ∀ J, fr scr I J → Q (some (.inl 1)) J S) (hE : ¬ tpP N x → ∀ J, fr scr I J → Q (some (.inl 0)) J S) : mj_C d 149 [.inr 20, .inl (x : Int)] I S Q := by
  have hH := hN.1
  have hCH := hC.1
  have hb : mB 21 := Or.inl rfl
  unfold InvH at hH
  unfold CbH at hCH
  have loop3 : ∀ (m : Nat) (p : Int), 0 ≤ p → p + m = N 2 → ∀ (J : mj_I), fr (fun a => scr a ∨ (36 ≤ a ∧ a ≤ 42)) I J → (∀ a k, 36 ≤ a → a ≤ 42 → k ≠ 3 → J a k = I a k) → (∀ q, 0 ≤ q → q < p ∨ N 2 ≤ q → q < 7 → J (21 + 15 + q.toNat) = I (21 + 15 + q.toNat)) → (∀ q, 0 ≤ q → q < N 2 → rd J 121 q = N (8 + 8 * q + 3)) → OS (teN N x (N 6).toNat) (N 1) J → Inv (teN N x (N 6).toNat) → xW d 149 62 [some (.inr (1, 0, 20, 0)), some (.inl (x : Int)), some (.inl p)] [] J S Q := by
    intro m
    induction m with
    | zero =>
      intro p p0 p1 J hJ g1 g2 g3 hO hI
      have j1 : J 21 1 = N 2 := by rw [hJ.f (by unfold scr; omega)]; exact hCH.2.2.1
      have hfr : fr scr I J := fun a ha => by
        by_cases e : 36 ≤ a ∧ a ≤ 42
        · have := g2 ((a : Int) - 36) (by omega) (by omega) (by omega)
          rw [show 21 + 15 + ((a : Int) - 36).toNat = a by omega] at this
          exact this
        · exact hJ a (fun q => q.elim ha e)
      have e2 : teN N x (N 6).toNat 2 = N 2 := teN_o hN _ 2 (by omega) (by omega)
      have hev : fbr (teN N x (N 6).toNat) z0 (N 1) 1 (sets (teN N x (N 6).toNat)) 0 = fbr N (moN N x (N 6).toNat) (N 1) 1 (sets N) 0 := by
        rw [te_fbr hN (by omega)]
        unfold sets
        rw [e2]
      refine x_hd false [62] 30 ?_
      (repeat' (first | rw [j1] | refine c_fbr hS hI hO _ ?_ (fun K hK => ?_) | with_reducible assumption | with_reducible exact rfl | with_reducible exact trivial | (with_reducible (show (_ : Int) ≤ _); omega) | (with_reducible (show (_ : Int) < _); omega) | (with_reducible (show (_ : Nat) < _); omega) | (with_reducible (show (_ : Nat) ≤ _); omega) | with_reducible exact Or.inl rfl | with_reducible exact Or.inr rfl | with_reducible exact Or.inl trivial | with_reducible exact Or.inr trivial | (intro hz; exact absurd hz (by decide)) | (intro hz; exfalso; omega) | refine And.intro ?_ ?_ | intro _))
      · rename_i z
        rw [hev] at z
        exact hE (fun q => by unfold tpP at q; omega) K (hfr.tr (scrF hK))
      · rename_i z
        rw [hev] at z
        exact hT (by unfold tpP; omega) K (hfr.tr (scrF hK))
    | succ m ih =>
      intro p p0 p1 J hJ g1 g2 g3 hO hI
      have j1 : J 21 1 = N 2 := by rw [hJ.f (by unfold scr; omega)]; exact hCH.2.2.1
      refine x_hd false [62] 40 ?_
      (repeat' (first | rw [j1] | with_reducible assumption | with_reducible exact rfl | with_reducible exact trivial | (with_reducible (show (_ : Int) ≤ _); omega) | (with_reducible (show (_ : Int) < _); omega) | (with_reducible (show (_ : Nat) < _); omega) | (with_reducible (show (_ : Nat) ≤ _); omega) | with_reducible exact Or.inl rfl | with_reducible exact Or.inr rfl | with_reducible exact Or.inl trivial | with_reducible exact Or.inr trivial | (intro hz; exact absurd hz (by decide)) | (intro hz; exfalso; omega) | refine And.intro ?_ ?_ | intro _))
      refine ih (p + 1) (by omega) (by omega) _ (hJ.mu (Or.inr (by omega)) _ _) (fun a k a0 a1 hk => by rw [mu_f (by omega)]; exact g1 a k a0 a1 hk) (fun q q0 q1 q2 => ?_) (fun q q0 q1 => by rw [rd_mu (by omega)]; exact g3 q q0 q1) (hO.g (fun a a0 a1 _ => mu_o (by omega))) hI
      by_cases e : q = p
      · subst e
        have hCP := hC.2.1 q q0 (by omega)
        funext k
        by_cases e3 : k = 3
        · subst e3
          rw [mj_up_s, g3 q q0 (by omega)]
          exact hCP.2.2.2.1.symm
        · rw [mu_f (by omega)]
          exact g1 _ k (by omega) (by omega) e3
      · rw [mu_o (by omega)]
        exact g2 q q0 (by omega) q2
  have loop2 : ∀ (m k : Nat), (k + m : Int) = N 6 → ∀ (kk : Int) (J : mj_I), kk = k → teF N I J → Inv (teN N x k) → Cb J S 21 (teN N x k) → xW d 149 21 [some (.inr (1, 0, 20, 0)), some (.inl (x : Int)), some (.inl kk)] [] J S Q := by
    intro m
    induction m with
    | zero =>
      intro k hk kk J g1 hJ hI hCJ
      have e6 : J 21 11 = N 6 := by rw [hJ.1.f (by unfold teX; omega)]; exact hCH.2.2.2.2.2.2.1
      have e13 : J 21 13 = N 1 := by rw [hJ.1.f (by unfold teX; omega)]; exact hCH.2.1
      have e : k = (N 6).toNat := by omega
      subst e
      refine x_hd false [21, 62] 40 ?_
      (repeat' (first | rw [e6] | rw [e13] | refine c_open1 hS hb hI hCJ _ ?_ (fun K r hK hO => ?_) | with_reducible assumption | with_reducible exact rfl | with_reducible exact trivial | (with_reducible (show (_ : Int) ≤ _); omega) | (with_reducible (show (_ : Int) < _); omega) | (with_reducible (show (_ : Nat) < _); omega) | (with_reducible (show (_ : Nat) ≤ _); omega) | with_reducible exact Or.inl rfl | with_reducible exact Or.inr rfl | with_reducible exact Or.inl trivial | with_reducible exact Or.inr trivial | (intro hz; exact absurd hz (by decide)) | (intro hz; exfalso; omega) | refine And.intro ?_ ?_ | intro _))
      have eN1 : teN N x (N 6).toNat 1 = N 1 := teN_o hN _ 1 (by omega) (by omega)
      exact loop3 (N 2).toNat 0 (by omega) (by omega) K ((hJ.1.mo (fun a q => by unfold teX at q; unfold scr; omega)).tr (hK.mo (fun a q => by unfold scr; omega))) (fun a k a0 a1 hk => by rw [hK.f (by omega)]; exact hJ.2.1 a k a0 a1 hk) (fun q q0 q1 q2 => by rw [hK _ (by omega)]; exact hJ.2.2.1 q (by omega) q2 q0) (fun q q0 q1 => by rw [hK.r (by omega)]; exact hJ.2.2.2 q q0 q1) hO hI
    | succ m ih =>
      intro k hk kk J g1 hJ hI hCJ
      subst g1
      have e6 : J 21 11 = N 6 := by rw [hJ.1.f (by unfold teX; omega)]; exact hCH.2.2.2.2.2.2.1
      have hO := hN.2.2.2.2.1 k (by omega) (by omega)
      unfold InvO at hO
      have hCO := hC.2.2.2.2.1 k (by omega) (by omega)
      unfold CbO at hCO
      have o1 : rd J (21 + 6) k = N (136 + 2 * (k : Int)) := by rw [hJ.1.r (by unfold teX; omega)]; exact hCO.1
      have o2 : rd J (21 + 7) k = N (136 + 2 * (k : Int) + 1) := by rw [hJ.1.r (by unfold teX; omega)]; exact hCO.2
      have hask := mj_ask0 (x : Int) (p := k) (by omega)
      have e2 : teN N x k 2 = N 2 := teN_o hN _ 2 (by omega) (by omega)
      have hCp := hCJ.2.1 (N (136 + 2 * (k : Int))) (by omega) (by omega)
      have e3 : J (21 + 15 + (N (136 + 2 * (k : Int))).toNat) 3 = teN N x k (8 + 8 * N (136 + 2 * (k : Int)) + 3) := hCp.2.2.2.1
      obtain ⟨hI2, hC2⟩ := mu_paper hI hCJ (v := N (136 + 2 * (k : Int))) (w := N (136 + 2 * (k : Int) + 1)) 1 ⟨by omega, hO.2⟩
      have nxt : ¬ mj_and (mj_shr (x : Int) k) 1 = 0 → xW d 149 21 [some (.inr (1, 0, 20, 0)), some (.inl (x : Int)), some (.inl ((k : Int) + 1))] [] (mj_up J (21 + 15 + (N (136 + 2 * (k : Int))).toNat) 3 (pset (J (21 + 15 + (N (136 + 2 * (k : Int))).toNat) 3) (N (136 + 2 * (k : Int) + 1)) 1)) S Q := by
        intro z
        have hm : mt (x : Int) k = true := by
          cases e : mt (x : Int) k with
          | true => rfl
          | false => exact absurd (hask.mpr e) z
        have eT : teN N x (k + 1) = ru (teN N x k) (8 + 8 * N (136 + 2 * (k : Int)) + 3) (pset (teN N x k (8 + 8 * N (136 + 2 * (k : Int)) + 3)) (N (136 + 2 * (k : Int) + 1)) 1) := if_pos hm
        rw [e3]
        refine ih (k + 1) (by omega) _ _ (by omega) ⟨hJ.1.mu (by unfold teX; omega) _ _, fun a i a0 a1 hi => by rw [mu_f (by omega)]; exact hJ.2.1 a i a0 a1 hi, fun q q0 q1 q2 => by rw [mu_o (by omega)]; exact hJ.2.2.1 q q0 q1 q2, fun q q0 q1 => by rw [rd_mu (by omega)]; exact hJ.2.2.2 q q0 q1⟩ (by rw [eT]; exact hI2) (by rw [eT]; exact hC2)
      refine x_hd false [21, 62] 40 ?_
      (repeat' (first | rw [e6] | rw [o1] | rw [o2] | exact tg_P hS hb (by omega) (by omega) | refine c_setPaper hS _ _ _ (tg_P hS hb (by omega) (by omega)) ?_ ?_ | with_reducible assumption | with_reducible exact rfl | with_reducible exact trivial | (with_reducible (show (_ : Int) ≤ _); omega) | (with_reducible (show (_ : Int) < _); omega) | (with_reducible (show (_ : Nat) < _); omega) | (with_reducible (show (_ : Nat) ≤ _); omega) | with_reducible exact Or.inl rfl | with_reducible exact Or.inr rfl | with_reducible exact Or.inl trivial | with_reducible exact Or.inr trivial | (intro hz; exact absurd hz (by decide)) | (intro hz; exfalso; omega) | refine And.intro ?_ ?_ | intro _))
      · rename_i z
        have eT : teN N x (k + 1) = teN N x k := if_neg (fun q => by rw [hask.mp z] at q; exact absurd q (by decide))
        exact ih (k + 1) (by omega) _ J (by omega) hJ (by rw [eT]; exact hI) (by rw [eT]; exact hCJ)
      · rename_i z _
        exact nxt z
      · rename_i z _
        exact nxt z
  have loop1 : ∀ (m : Nat) (p : Int), 0 ≤ p → p + m = N 2 → ∀ (J : mj_I), fr (fun a => a = 121) I J → (∀ q, 0 ≤ q → q < p → rd J 121 q = N (8 + 8 * q + 3)) → xW d 149 2 [some (.inr (1, 0, 20, 0)), some (.inl (x : Int)), some (.inl p)] [] J S Q := by
    intro m
    induction m with
    | zero =>
      intro p p0 p1 J hJ g1
      have j1 : J 21 1 = N 2 := by rw [hJ.f (by omega)]; exact hCH.2.2.1
      refine x_hd false [2, 21] 30 ?_
      (repeat' (first | rw [j1] | with_reducible assumption | with_reducible exact rfl | with_reducible exact trivial | (with_reducible (show (_ : Int) ≤ _); omega) | (with_reducible (show (_ : Int) < _); omega) | (with_reducible (show (_ : Nat) < _); omega) | (with_reducible (show (_ : Nat) ≤ _); omega) | with_reducible exact Or.inl rfl | with_reducible exact Or.inr rfl | with_reducible exact Or.inl trivial | with_reducible exact Or.inr trivial | (intro hz; exact absurd hz (by decide)) | (intro hz; exfalso; omega) | refine And.intro ?_ ?_ | intro _))
      exact loop2 (N 6).toNat 0 (by omega) _ J rfl ⟨hJ.mo (fun a q => Or.inl q), fun a k a0 a1 _ => hJ.f (by omega) k, fun q _ _ _ => hJ _ (by omega), fun q q0 q1 => g1 q q0 (by omega)⟩ hN (hC.fr hN.1 hJ (fun a q => by unfold bc at q; omega))
    | succ m ih =>
      intro p p0 p1 J hJ g1
      have j1 : J 21 1 = N 2 := by rw [hJ.f (by omega)]; exact hCH.2.2.1
      have hCP := hC.2.1 p p0 (by omega)
      have j3 : J (21 + 15 + p.toNat) 3 = N (8 + 8 * p + 3) := by rw [hJ.f (by omega)]; exact hCP.2.2.2.1
      refine x_hd false [2, 21] 40 ?_
      (repeat' (first | rw [j1] | with_reducible assumption | with_reducible exact rfl | with_reducible exact trivial | (with_reducible (show (_ : Int) ≤ _); omega) | (with_reducible (show (_ : Int) < _); omega) | (with_reducible (show (_ : Nat) < _); omega) | (with_reducible (show (_ : Nat) ≤ _); omega) | with_reducible exact Or.inl rfl | with_reducible exact Or.inr rfl | with_reducible exact Or.inl trivial | with_reducible exact Or.inr trivial | (intro hz; exact absurd hz (by decide)) | (intro hz; exfalso; omega) | refine And.intro ?_ ?_ | intro _))
      refine ih (p + 1) (by omega) (by omega) _ (hJ.up rfl _ _) (fun q q0 q1 => ?_)
      rw [rd_up (by omega) (by omega)]
      by_cases e : q = p
      · rw [e, ru_s, j3]
      · rw [ru_n e]; exact g1 q q0 (by omega)
  refine x_C false [.inr (1, 0, 20, 0), .inl (x : Int)] [2] 30 hS ⟨xok_w hS, trivial, trivial⟩ ?_
  (repeat' (first | with_reducible assumption | with_reducible exact rfl | with_reducible exact trivial | (with_reducible (show (_ : Int) ≤ _); omega) | (with_reducible (show (_ : Int) < _); omega) | (with_reducible (show (_ : Nat) < _); omega) | (with_reducible (show (_ : Nat) ≤ _); omega) | with_reducible exact Or.inl rfl | with_reducible exact Or.inr rfl | with_reducible exact Or.inl trivial | with_reducible exact Or.inr trivial | (intro hz; exact absurd hz (by decide)) | (intro hz; exfalso; omega) | refine And.intro ?_ ?_ | intro _))
  exact loop1 (N 2).toNat 0 (by omega) (by omega) I fr.refl (fun q q0 q1 => by omega)
theorem c_taughtE {d : Nat} {I : mj_I} {S : mj_S} {Q : mj_Q} (hS : mk_Sh S) {N : Int → Int} (hN : Inv N) (hC : Cb I S 21 N) (x : Nat) {xx : Int} (hx : x < 64) (hxx : xx = (x : Int)) (hd : 11 < d)
    (hT : tpP N x → ∀ J, fr scr I J → Q (some (.inl 1)) J S) (hE : ¬ tpP N x → ∀ J, fr scr I J → Q (some (.inl 0)) J S) : mj_C d 149 [.inr 20, .inl xx] I S Q := by
  subst hxx
  exact c_taught hS hN hC x hx hd hT hE
def teS (N : Int → Int) : Int := if teR N (2 ^ (N 6).toNat) 0 (-1) < 0 then -1000000005 else teR N (2 ^ (N 6).toNat) 0 (-1)
theorem pc7_0 : pc7 ((0 : Nat) : Int) = 0 := by decide +kernel
theorem P_teach {L : Nat} {xs : Nat → Int32} {n : Nat} : Pair L xs n 148 267 [] := by
  refine pair_ro (fun N _ => teS N) (fun _ _ _ => rfl) (fun I S Q hR h => ?_) (fun I S Q hR h => ?_)
  · obtain ⟨hS, hO, ⟨hN, hCb⟩, hI, hTp, hWt, hSh, hSl, hMo, hCa, hBd⟩ := hR
    have hH := hN.1
    have hCH := hCb.1
    have hb : mB 21 := Or.inl rfl
    unfold InvH at hH
    unfold CbH at hCH
    have e1 : I 21 1 = rd I 151 2 := hCH.2.2.1
    have e11 : I 21 11 = rd I 151 6 := hCH.2.2.2.2.2.2.1
    have b1 : mj_shl 1 (rd I 151 6) = ((2 ^ (rd I 151 6).toNat : Nat) : Int) := by
      have e := shl_2 (rd I 151 6).toNat (by omega)
      rw [show (((rd I 151 6).toNat : Nat) : Int) = rd I 151 6 by omega] at e
      exact e
    have b2 : 1 ≤ 2 ^ (rd I 151 6).toNat ∧ 2 ^ (rd I 151 6).toNat ≤ 64 := by
      have : ∀ n, n < 7 → 1 ≤ 2 ^ n ∧ 2 ^ n ≤ 64 := by decide
      exact this _ (by omega)
    have pcs := fun k hk => (pc_set (rd I 151 6).toNat (by omega) k hk).2
    have hMB := teR_MB (N := rd I 151) (2 ^ (rd I 151 6).toNat) 0 (-1) MB_0
    rw [Nat.zero_add] at hMB
    have htop : ∀ j : Nat, tpP (rd I 151) j → tpP (rd I 151) (2 ^ (rd I 151 6).toNat - 1) := fun j hj => tpP_top (by omega) hj
    unfold teS at h
    generalize hz : 2 ^ (rd I 151 6).toNat = z at *
    generalize hB : teR (rd I 151) z 0 (-1) = B at *
    have loop : ∀ (m : Nat) (s : Int), 0 ≤ s → s + m = rd I 151 6 + 1 → ∀ (zz ss : Int) (w : Option xV) (J : mj_I), zz = z → ss = s → fr scr I J → (∀ j : Nat, j < z → tpP (rd I 151) j → s ≤ pc7 j) → xW 400 148 22 [some (.inr (1, 0, 20, 0)), some (.inl zz), some (.inl ss), w] [] J S Q := by
      intro m
      induction m with
      | zero =>
        intro s s0 s1 zz ss w J g1 g2 hJ hs
        have j11 : J 21 11 = rd I 151 6 := by rw [hJ.f (by unfold scr; omega)]; exact e11
        have eb : B = -1 := MB_u hMB (Or.inl ⟨rfl, fun k _ k1 hk => by have := hs k k1 hk; have := pcs k k1; omega⟩)
        refine x_hd false [22] 30 ?_
        (repeat' (first | rw [j11] | with_reducible assumption | with_reducible exact rfl | with_reducible exact trivial | (with_reducible (show (_ : Int) ≤ _); omega) | (with_reducible (show (_ : Int) < _); omega) | (with_reducible (show (_ : Nat) < _); omega) | (with_reducible (show (_ : Nat) ≤ _); omega) | with_reducible exact Or.inl rfl | with_reducible exact Or.inr rfl | with_reducible exact Or.inl trivial | with_reducible exact Or.inr trivial | (intro hz; exact absurd hz (by decide)) | (intro hz; exfalso; omega) | refine And.intro ?_ ?_ | intro _))
        refine Qe (h J hJ) ?_
        rw [eb]
        rfl
      | succ m ih =>
        intro s s0 s1 zz ss w J g1 g2 hJ hs
        subst g1
        subst g2
        have inner : ∀ (y k : Nat), k + y = z → ∀ (kk : Int) (K : mj_I), kk = k → fr scr I K → (∀ j : Nat, j < k → tpP (rd I 151) j → pc7 j = ss → False) → xW 400 148 29 [some (.inr (1, 0, 20, 0)), some (.inl (z : Int)), some (.inl ss), some (.inl kk)] [] K S Q := by
          intro y
          induction y with
          | zero =>
            intro k hk kk K g3 hK hf
            refine x_hd false [22, 29] 30 ?_
            (repeat' (first | with_reducible assumption | with_reducible exact rfl | with_reducible exact trivial | (with_reducible (show (_ : Int) ≤ _); omega) | (with_reducible (show (_ : Int) < _); omega) | (with_reducible (show (_ : Nat) < _); omega) | (with_reducible (show (_ : Nat) ≤ _); omega) | with_reducible exact Or.inl rfl | with_reducible exact Or.inr rfl | with_reducible exact Or.inl trivial | with_reducible exact Or.inr trivial | (intro hz; exact absurd hz (by decide)) | (intro hz; exfalso; omega) | refine And.intro ?_ ?_ | intro _))
            refine ih (ss + 1) (by omega) (by omega) _ _ _ K rfl rfl hK (fun j hj hP => ?_)
            have a := hs j hj hP
            by_cases e : pc7 (j : Int) = ss
            · exact absurd e (fun e => hf j (by omega) hP e)
            · omega
          | succ y ihy =>
            intro k hk kk K g3 hK hf
            subst g3
            have hCK := hCb.fr hN.1 hK (fun a q => bc_scr hb q)
            refine x_hd false [22, 29] 30 ?_
            (repeat' (first | refine c_bits _ (by unfold mt7; omega) ?_ | refine c_taught hS hN hCK k (by omega) ?_ (fun hP A hA => ?_) (fun hP A hA => ?_) | with_reducible assumption | with_reducible exact rfl | with_reducible exact trivial | (with_reducible (show (_ : Int) ≤ _); omega) | (with_reducible (show (_ : Int) < _); omega) | (with_reducible (show (_ : Nat) < _); omega) | (with_reducible (show (_ : Nat) ≤ _); omega) | with_reducible exact Or.inl rfl | with_reducible exact Or.inr rfl | with_reducible exact Or.inl trivial | with_reducible exact Or.inr trivial | (intro hz; exact absurd hz (by decide)) | (intro hz; exfalso; omega) | refine And.intro ?_ ?_ | intro _))
            · rename_i z1
              refine ihy (k + 1) (by omega) _ K (by omega) hK (fun j hj hP e => ?_)
              by_cases ej : j = k
              · subst ej; exact z1 e
              · exact hf j (by omega) hP e
            · rename_i z1 _
              have eb : B = k := MB_u hMB (MB_x (Nat.zero_le _) (by omega) hP (fun j _ j1 hj => by have := hs j j1 hj; omega) (fun j hj hP2 he => hf j hj hP2 (by omega)))
              refine Qe (h A (hK.tr hA)) ?_
              rw [eb, if_neg (by omega)]
            · refine ihy (k + 1) (by omega) _ A (by omega) (hK.tr hA) (fun j hj hP2 e => ?_)
              by_cases ej : j = k
              · subst ej; exact hP hP2
              · exact hf j (by omega) hP2 e
        have j11 : J 21 11 = rd I 151 6 := by rw [hJ.f (by unfold scr; omega)]; exact e11
        refine x_hd false [22, 29] 30 ?_
        (repeat' (first | rw [j11] | with_reducible assumption | with_reducible exact rfl | with_reducible exact trivial | (with_reducible (show (_ : Int) ≤ _); omega) | (with_reducible (show (_ : Int) < _); omega) | (with_reducible (show (_ : Nat) < _); omega) | (with_reducible (show (_ : Nat) ≤ _); omega) | with_reducible exact Or.inl rfl | with_reducible exact Or.inr rfl | with_reducible exact Or.inl trivial | with_reducible exact Or.inr trivial | (intro hz; exact absurd hz (by decide)) | (intro hz; exfalso; omega) | refine And.intro ?_ ?_ | intro _))
        exact inner z 0 (by omega) _ J rfl hJ (fun j hj => by omega)
    have b3 : mj_shl 1 (I 21 11) = (z : Int) := by rw [e11]; exact b1
    refine x_C false [.inr (1, 0, 20, 0)] [22] 60 hS ⟨xok_w hS, trivial⟩ ?_
    (repeat' (first | rw [e1] | rw [b3] | refine c_taughtE hS hN hCb (z - 1) (by omega) (by omega) ?_ (fun hP A hA => ?_) (fun hP A hA => ?_) | with_reducible assumption | with_reducible exact rfl | with_reducible exact trivial | (with_reducible (show (_ : Int) ≤ _); omega) | (with_reducible (show (_ : Int) < _); omega) | (with_reducible (show (_ : Nat) < _); omega) | (with_reducible (show (_ : Nat) ≤ _); omega) | with_reducible exact Or.inl rfl | with_reducible exact Or.inr rfl | with_reducible exact Or.inl trivial | with_reducible exact Or.inr trivial | (intro hz; exact absurd hz (by decide)) | (intro hz; exfalso; omega) | refine And.intro ?_ ?_ | intro _))
    · exact loop ((rd I 151 6).toNat + 1) 0 (by omega) (by omega) _ _ _ A (by first | rfl | exact b3) rfl hA (fun j _ _ => (pc7_b _).1)
    · have eb : B = -1 := MB_u hMB (Or.inl ⟨rfl, fun k _ k1 hk => hP (htop k hk)⟩)
      refine Qe (h A hA) ?_
      rw [eb]
      rfl
    · rename_i z0
      have hs1 : sets (rd I 151) = 1 := by unfold sets; rw [z0]; rfl
      have hP0 : tpP (rd I 151) 0 := by
        unfold tpP
        rw [hs1]
        show (if pc7 ((0 : Nat) : Int) = 1 ∧ _ then ((0 : Nat) : Int) else -1) < 0
        rw [if_neg (fun q => by have := q.1; rw [pc7_0] at this; omega)]
        decide
      have eb : B = ((0 : Nat) : Int) := MB_u hMB (MB_x (k := 0) (Nat.zero_le _) (by omega) hP0 (fun j _ _ _ => by rw [pc7_0]; exact (pc7_b _).1) (fun j hj => by omega))
      refine Qe (h I fr.refl) ?_
      rw [eb]
      rfl
  · obtain ⟨hS, hO, ⟨hN, hCb⟩, hI, hTp, hWt, hSh, hSl, hMo, hCa, hBd⟩ := hR
    have hH := hN.1
    have hCH := hCb.1
    have hb : mB 21 := Or.inl rfl
    unfold InvH at hH
    unfold CbH at hCH
    have b1 : mj_shl 1 (rd I 151 6) = ((2 ^ (rd I 151 6).toNat : Nat) : Int) := by
      have e := shl_2 (rd I 151 6).toNat (by omega)
      rw [show (((rd I 151 6).toNat : Nat) : Int) = rd I 151 6 by omega] at e
      exact e
    have b2 : 1 ≤ 2 ^ (rd I 151 6).toNat ∧ 2 ^ (rd I 151 6).toNat ≤ 64 := by
      have : ∀ n, n < 7 → 1 ≤ 2 ^ n ∧ 2 ^ n ≤ 64 := by decide
      exact this _ (by omega)
    have hMB := teR_MB (N := rd I 151) (2 ^ (rd I 151 6).toNat) 0 (-1) MB_0
    rw [Nat.zero_add] at hMB
    unfold teS at h
    generalize hz : 2 ^ (rd I 151 6).toNat = z at *
    generalize hB : teR (rd I 151) z 0 (-1) = B at *
    have loop : ∀ m k : Nat, k + m = z → ∀ (kk best : Int) (J : mj_I), kk = k → fr (fun a => scr a ∨ a = 154) I J → (∀ i : Nat, 7 ≤ i → J 154 i = I 154 i) → MB (tpP (rd I 151)) 0 k best → xW 400 267 4 [some (.inr (13, 0, 150, 0)), some (.inl best), some (.inl kk)] [] J S Q := by
      intro m
      induction m with
      | zero =>
        intro k hk kk best J g1 hJ g2 hM
        have e151 : rd J 151 = rd I 151 := hJ.r (by unfold scr; omega)
        have e : k = z := by omega
        subst e
        have eb : best = B := MB_u hM hMB
        refine x_hd false [4] 30 ?_
        (repeat' (first | rw [e151] | rw [b1] | refine m_offers hS (by rw [e151]; exact hN) _ (fun K hK k1 k2 => ?_) | refine m_orNone _ ?_ | with_reducible assumption | with_reducible exact rfl | with_reducible exact trivial | (with_reducible (show (_ : Int) ≤ _); omega) | (with_reducible (show (_ : Int) < _); omega) | (with_reducible (show (_ : Nat) < _); omega) | (with_reducible (show (_ : Nat) ≤ _); omega) | with_reducible exact Or.inl rfl | with_reducible exact Or.inr rfl | with_reducible exact Or.inl trivial | with_reducible exact Or.inr trivial | (intro hz; exact absurd hz (by decide)) | (intro hz; exfalso; omega) | refine And.intro ?_ ?_ | intro _))
        refine Qe (h K (fun a ha => ?_)) (by rw [eb])
        by_cases ea : a = 154
        · subst ea
          funext i
          by_cases hi : i < 7
          · have q1 := k2 i (by omega) (by omega)
            have q2 := hMo i (by omega) (by omega)
            rw [moN_0, rd_in (by omega) (by omega)] at q1
            rw [rd_in (by omega) (by omega)] at q2
            rw [show ((i : Int).toNat) = i by omega] at q1 q2
            rw [q1, q2]
          · rw [k1 i (by omega), g2 i (by omega)]
        · rw [hK a ea, hJ a (fun q => q.elim ha ea)]
      | succ m ih =>
        intro k hk kk best J g1 hJ g2 hM
        subst g1
        have e151 : rd J 151 = rd I 151 := hJ.r (by unfold scr; omega)
        refine x_hd false [4] 40 ?_
        (repeat' (first | rw [e151] | rw [b1] | refine m_ones hS _ ?_ | refine m_offers hS (by rw [e151]; exact hN) _ (fun K hK k1 k2 => ?_) | refine m_bearsAny hS _ (by rw [hK.r (by omega), e151]; exact hN) ?_ (fun hl A hA => ?_) (fun hl A hA => ?_) | with_reducible assumption | with_reducible exact rfl | with_reducible exact trivial | (with_reducible (show (_ : Int) ≤ _); omega) | (with_reducible (show (_ : Int) < _); omega) | (with_reducible (show (_ : Nat) < _); omega) | (with_reducible (show (_ : Nat) ≤ _); omega) | with_reducible exact Or.inl rfl | with_reducible exact Or.inr rfl | with_reducible exact Or.inl trivial | with_reducible exact Or.inr trivial | (intro hz; exact absurd hz (by decide)) | (intro hz; exfalso; omega) | refine And.intro ?_ ?_ | intro _))
        · have k151 : rd K 151 = rd I 151 := by rw [hK.r (by omega), e151]
          rw [e151] at k2
          rw [k151, fbr_MM hN k2] at hl
          exact ih (k + 1) (by omega) _ _ A (by omega) (hJ.tr ((hK.mo (fun a q => Or.inr q)).tr (hA.mo (fun a q => Or.inl (by unfold scr; omega))))) (fun i hi => by rw [hA.f (by omega), k1 i hi, g2 i hi]) (MB_t hM (by omega) hl (by omega))
        · have k151 : rd K 151 = rd I 151 := by rw [hK.r (by omega), e151]
          rw [e151] at k2
          rw [k151, fbr_MM hN k2] at hl
          exact ih (k + 1) (by omega) _ _ A (by omega) (hJ.tr ((hK.mo (fun a q => Or.inr q)).tr (hA.mo (fun a q => Or.inl (by unfold scr; omega))))) (fun i hi => by rw [hA.f (by omega), k1 i hi, g2 i hi]) (MB_n hM (Or.inl hl))
        · have k151 : rd K 151 = rd I 151 := by rw [hK.r (by omega), e151]
          rw [e151] at k2
          rw [k151, fbr_MM hN k2] at hl
          exact ih (k + 1) (by omega) _ _ A (by omega) (hJ.tr ((hK.mo (fun a q => Or.inr q)).tr (hA.mo (fun a q => Or.inl (by unfold scr; omega))))) (fun i hi => by rw [hA.f (by omega), k1 i hi, g2 i hi]) (MB_t hM (by omega) hl (by omega))
        · have k151 : rd K 151 = rd I 151 := by rw [hK.r (by omega), e151]
          rw [e151] at k2
          rw [k151, fbr_MM hN k2] at hl
          exact ih (k + 1) (by omega) _ _ A (by omega) (hJ.tr ((hK.mo (fun a q => Or.inr q)).tr (hA.mo (fun a q => Or.inl (by unfold scr; omega))))) (fun i hi => by rw [hA.f (by omega), k1 i hi, g2 i hi]) (MB_n hM (Or.inl hl))
        · exact ih (k + 1) (by omega) _ _ J (by omega) hJ g2 (MB_n hM (Or.inr ⟨by omega, by omega⟩))
    refine x_C false [.inr (13, 0, 150, 0)] [4] 60 hS ⟨xok_m hS, trivial⟩ ?_
    (repeat' (first | with_reducible assumption | with_reducible exact rfl | with_reducible exact trivial | (with_reducible (show (_ : Int) ≤ _); omega) | (with_reducible (show (_ : Int) < _); omega) | (with_reducible (show (_ : Nat) < _); omega) | (with_reducible (show (_ : Nat) ≤ _); omega) | with_reducible exact Or.inl rfl | with_reducible exact Or.inr rfl | with_reducible exact Or.inl trivial | with_reducible exact Or.inr trivial | (intro hz; exact absurd hz (by decide)) | (intro hz; exfalso; omega) | refine And.intro ?_ ?_ | intro _))
    exact loop z 0 (by omega) _ _ I rfl fr.refl (fun _ _ => rfl) MB_0
