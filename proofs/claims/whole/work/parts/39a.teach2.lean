/-! teach: offers, isTaughtEnough -/
theorem up_i {I : mj_I} {a k : Nat} {j x : Int} (h : k ≠ j.toNat) : up I a j x a k = I a k := if_neg (fun q => h q.2)
theorem moN_0 {N : Int → Int} : ∀ (k : Nat) (p : Int), moN N 0 k p = 0
  | 0, _ => rfl
  | k + 1, p => by
    unfold moN
    rw [mt_0, if_neg (by decide)]
    exact moN_0 k p
/-- 268 offers -/
theorem m_offers {d : Nat} {I : mj_I} {S : mj_S} {Q : mj_Q} (hS : mk_Sh S) (hN : Inv (rd I 151)) (x : Int) (h : ∀ J, fr (fun a => a = 154) I J → (∀ k : Nat, 7 ≤ k → J 154 k = I 154 k) → (∀ p, 0 ≤ p → p < 7 → rd J 154 p = moN (rd I 151) x (rd I 151 6).toNat p) → Q none J S) : mj_C d 268 [.inr 150, .inl x] I S Q := by
  have hH := hN.1
  unfold InvH at hH
  have loop2 : ∀ m k : Nat, (k + m : Int) = rd I 151 6 → ∀ (kk : Int) (J : mj_I), kk = k → fr (fun a => a = 154) I J → (∀ k : Nat, 7 ≤ k → J 154 k = I 154 k) → (∀ p, 0 ≤ p → p < 7 → rd J 154 p = moN (rd I 151) x k p) → xW d 268 14 [some (.inr (13, 0, 150, 0)), some (.inl x), some (.inl kk)] [] J S Q := by
    intro m
    induction m with
    | zero =>
      intro k hk kk J g1 hJ g2 g3
      have e151 : rd J 151 = rd I 151 := hJ.r (by omega)
      refine x_hd false [14] 30 ?_
      (repeat' (first | rw [e151] | with_reducible assumption | with_reducible exact rfl | with_reducible exact trivial | (with_reducible (show (_ : Int) ≤ _); omega) | (with_reducible (show (_ : Int) < _); omega) | (with_reducible (show (_ : Nat) < _); omega) | (with_reducible (show (_ : Nat) ≤ _); omega) | with_reducible exact Or.inl rfl | with_reducible exact Or.inr rfl | with_reducible exact Or.inl trivial | with_reducible exact Or.inr trivial | (intro hz; exact absurd hz (by decide)) | (intro hz; exfalso; omega) | refine And.intro ?_ ?_ | intro _))
      rw [show (rd I 151 6).toNat = k by omega] at h
      exact h J hJ g2 g3
    | succ m ih =>
      intro k hk kk J g1 hJ g2 g3
      subst g1
      have e151 : rd J 151 = rd I 151 := hJ.r (by omega)
      have hO := hN.2.2.2.2.1 k (by omega) (by omega)
      unfold InvO at hO
      have hask := mj_ask1 x (p := k) (by omega)
      have hR := moN_R (N := rd I 151) (x := x) k (rd I 151 (136 + 2 * (k : Int)))
      have gp := g3 (rd I 151 (136 + 2 * (k : Int))) (by omega) (by omega)
      have nxt : ∀ z, (∀ p, 0 ≤ p → p < 7 → ru (rd J 154) (rd I 151 (136 + 2 * (k : Int))) z p = moN (rd I 151) x (k + 1) p) → xW d 268 14 [some (.inr (13, 0, 150, 0)), some (.inl x), some (.inl ((k : Int) + 1))] [] (up J 154 (rd I 151 (136 + 2 * (k : Int))) z) S Q := by
        intro z hz
        refine ih (k + 1) (by omega) _ _ (by omega) (hJ.up rfl _ _) (fun i hi => by rw [up_i (by omega)]; exact g2 i hi) (fun p p0 p1 => ?_)
        rw [rd_up (by omega) (by omega)]
        exact hz p p0 p1
      refine x_hd false [14] 60 ?_
      (repeat' (first | rw [e151] | with_reducible assumption | with_reducible exact rfl | with_reducible exact trivial | (with_reducible (show (_ : Int) ≤ _); omega) | (with_reducible (show (_ : Int) < _); omega) | (with_reducible (show (_ : Nat) < _); omega) | (with_reducible (show (_ : Nat) ≤ _); omega) | with_reducible exact Or.inl rfl | with_reducible exact Or.inr rfl | with_reducible exact Or.inl trivial | with_reducible exact Or.inr trivial | (intro hz; exact absurd hz (by decide)) | (intro hz; exfalso; omega) | refine And.intro ?_ ?_ | intro _))
      all_goals skip
  have loop1 : ∀ (m : Nat) (p : Int), 0 ≤ p → p + m = 7 → ∀ (J : mj_I), fr (fun a => a = 154) I J → (∀ k : Nat, 7 ≤ k → J 154 k = I 154 k) → (∀ q, 0 ≤ q → q < p → rd J 154 q = 0) → xW d 268 2 [some (.inr (13, 0, 150, 0)), some (.inl x), some (.inl p)] [] J S Q := by
    intro m
    induction m with
    | zero =>
      intro p p0 p1 J hJ g2 g3
      refine x_hd false [2, 14] 30 ?_
      (repeat' (first | with_reducible assumption | with_reducible exact rfl | with_reducible exact trivial | (with_reducible (show (_ : Int) ≤ _); omega) | (with_reducible (show (_ : Int) < _); omega) | (with_reducible (show (_ : Nat) < _); omega) | (with_reducible (show (_ : Nat) ≤ _); omega) | with_reducible exact Or.inl rfl | with_reducible exact Or.inr rfl | with_reducible exact Or.inl trivial | with_reducible exact Or.inr trivial | (intro hz; exact absurd hz (by decide)) | (intro hz; exfalso; omega) | refine And.intro ?_ ?_ | intro _))
      exact loop2 (rd I 151 6).toNat 0 (by omega) _ J rfl hJ g2 (fun q q0 q1 => g3 q q0 (by omega))
    | succ m ih =>
      intro p p0 p1 J hJ g2 g3
      refine x_hd false [2, 14] 30 ?_
      (repeat' (first | with_reducible assumption | with_reducible exact rfl | with_reducible exact trivial | (with_reducible (show (_ : Int) ≤ _); omega) | (with_reducible (show (_ : Int) < _); omega) | (with_reducible (show (_ : Nat) < _); omega) | (with_reducible (show (_ : Nat) ≤ _); omega) | with_reducible exact Or.inl rfl | with_reducible exact Or.inr rfl | with_reducible exact Or.inl trivial | with_reducible exact Or.inr trivial | (intro hz; exact absurd hz (by decide)) | (intro hz; exfalso; omega) | refine And.intro ?_ ?_ | intro _))
      refine ih (p + 1) (by omega) (by omega) _ (hJ.up rfl _ _) (fun i hi => by rw [up_i (by omega)]; exact g2 i hi) (fun q q0 q1 => ?_)
      rw [rd_up (by omega) (by omega)]
      by_cases e : q = p
      · rw [e, ru_s]
      · rw [ru_n e]; exact g3 q q0 (by omega)
  refine x_C false [.inr (13, 0, 150, 0), .inl x] [2] 30 hS ⟨xok_m hS, trivial, trivial⟩ ?_
  (repeat' (first | with_reducible assumption | with_reducible exact rfl | with_reducible exact trivial | (with_reducible (show (_ : Int) ≤ _); omega) | (with_reducible (show (_ : Int) < _); omega) | (with_reducible (show (_ : Nat) < _); omega) | (with_reducible (show (_ : Nat) ≤ _); omega) | with_reducible exact Or.inl rfl | with_reducible exact Or.inr rfl | with_reducible exact Or.inl trivial | with_reducible exact Or.inr trivial | (intro hz; exact absurd hz (by decide)) | (intro hz; exfalso; omega) | refine And.intro ?_ ?_ | intro _))
  exact loop1 7 0 (by omega) (by omega) I fr.refl (fun _ _ => rfl) (fun q q0 q1 => by omega)
/-- what is changed on the way -/
def teX (a : Nat) : Prop := a = 121 ∨ (36 ≤ a ∧ a ≤ 42)
def teF (N : Int → Int) (I J : mj_I) : Prop := fr teX I J ∧ (∀ a k, 36 ≤ a → a ≤ 42 → k ≠ 3 → J a k = I a k) ∧ (∀ p, N 2 ≤ p → p < 7 → 0 ≤ p → J (21 + 15 + p.toNat) = I (21 + 15 + p.toNat)) ∧ ∀ p, 0 ≤ p → p < N 2 → rd J 121 p = N (8 + 8 * p + 3)
/-- 149 isTaughtEnough -/
theorem c_taught {d : Nat} {I : mj_I} {S : mj_S} {Q : mj_Q} (hS : mk_Sh S) {N : Int → Int} (hN : Inv N) (hC : Cb I S 21 N) (x : Nat) (hx : x < 64) (hd : 11 < d)
    (hT : tpP N x → ∀ J, fr scr I J → Q (some (.inl 1)) J S) (hE : ¬ tpP N x → ∀ J, fr scr I J → Q (some (.inl 0)) J S) : mj_C d 149 [.inr 20, .inl (x : Int)] I S Q := by
  have hH := hN.1
  have hCH := hC.1
  have hb : mB 21 := Or.inl rfl
  unfold InvH at hH
  unfold CbH at hCH
  have loop3 : ∀ (m : Nat) (p : Int), 0 ≤ p → p + m = N 2 → ∀ (J : mj_I), fr (fun a => scr a ∨ (36 ≤ a ∧ a ≤ 42)) I J → (∀ a k, 36 ≤ a → a ≤ 42 → k ≠ 3 → J a k = I a k) → (∀ q, 0 ≤ q → q < p ∨ N 2 ≤ q → q < 7 → J (21 + 15 + q.toNat) = I (21 + 15 + q.toNat)) → (∀ q, 0 ≤ q → q < N 2 → rd J 121 q = N (8 + 8 * q + 3)) → OS (teN N x (N 6).toNat) (N 1) J → Inv (teN N x (N 6).toNat) → xW d 149 62 [some (.inr (1, 0, 20, 0)), some (.inl (x : Int)), some (.inl p)] [] J S Q := by
    intro m
    induction m with
    | zero =>
      intro p p0 p1 J hJ g1 g2 g3 hO hI
      have j1 : J 21 1 = N 2 := by rw [hJ.f (by unfold scr; omega)]; exact hCH.2.2.1
      have hfr : fr scr I J := fun a ha => by
        by_cases e : 36 ≤ a ∧ a ≤ 42
        · have := g2 ((a : Int) - 36) (by omega) (by omega) (by omega)
          rw [show 21 + 15 + ((a : Int) - 36).toNat = a by omega] at this
          exact this
        · exact hJ a (fun q => q.elim ha e)
      have e2 : teN N x (N 6).toNat 2 = N 2 := teN_o hN _ 2 (by omega) (by omega)
      have hev : fbr (teN N x (N 6).toNat) z0 (N 1) 1 (sets (teN N x (N 6).toNat)) 0 = fbr N (moN N x (N 6).toNat) (N 1) 1 (sets N) 0 := by
        rw [te_fbr hN (by omega)]
        unfold sets
        rw [e2]
      refine x_hd false [62] 30 ?_
      (repeat' (first | rw [j1] | refine c_fbr hS hI hO _ ?_ (fun K hK => ?_) | with_reducible assumption | with_reducible exact rfl | with_reducible exact trivial | (with_reducible (show (_ : Int) ≤ _); omega) | (with_reducible (show (_ : Int) < _); omega) | (with_reducible (show (_ : Nat) < _); omega) | (with_reducible (show (_ : Nat) ≤ _); omega) | with_reducible exact Or.inl rfl | with_reducible exact Or.inr rfl | with_reducible exact Or.inl trivial | with_reducible exact Or.inr trivial | (intro hz; exact absurd hz (by decide)) | (intro hz; exfalso; omega) | refine And.intro ?_ ?_ | intro _))
      all_goals skip
    | succ m ih =>
      intro p p0 p1 J hJ g1 g2 g3 hO hI
      have j1 : J 21 1 = N 2 := by rw [hJ.f (by unfold scr; omega)]; exact hCH.2.2.1
      refine x_hd false [62] 40 ?_
      (repeat' (first | rw [j1] | with_reducible assumption | with_reducible exact rfl | with_reducible exact trivial | (with_reducible (show (_ : Int) ≤ _); omega) | (with_reducible (show (_ : Int) < _); omega) | (with_reducible (show (_ : Nat) < _); omega) | (with_reducible (show (_ : Nat) ≤ _); omega) | with_reducible exact Or.inl rfl | with_reducible exact Or.inr rfl | with_reducible exact Or.inl trivial | with_reducible exact Or.inr trivial | (intro hz; exact absurd hz (by decide)) | (intro hz; exfalso; omega) | refine And.intro ?_ ?_ | intro _))
      all_goals skip
  have loop2 : ∀ (m k : Nat), (k + m : Int) = N 6 → ∀ (kk : Int) (J : mj_I), kk = k → teF N I J → Inv (teN N x k) → Cb J S 21 (teN N x k) → xW d 149 21 [some (.inr (1, 0, 20, 0)), some (.inl (x : Int)), some (.inl kk)] [] J S Q := by
    intro m
    induction m with
    | zero =>
      intro k hk kk J g1 hJ hI hCJ
      have e6 : J 21 11 = N 6 := by rw [hJ.1.f (by unfold teX; omega)]; exact hCH.2.2.2.2.2.2.1
      have e13 : J 21 13 = N 1 := by rw [hJ.1.f (by unfold teX; omega)]; exact hCH.2.1
      have e : k = (N 6).toNat := by omega
      subst e
      refine x_hd false [21, 62] 40 ?_
      (repeat' (first | rw [e6] | rw [e13] | refine c_open1 hS hb hI hCJ _ ?_ (fun K r hK hO => ?_) | with_reducible assumption | with_reducible exact rfl | with_reducible exact trivial | (with_reducible (show (_ : Int) ≤ _); omega) | (with_reducible (show (_ : Int) < _); omega) | (with_reducible (show (_ : Nat) < _); omega) | (with_reducible (show (_ : Nat) ≤ _); omega) | with_reducible exact Or.inl rfl | with_reducible exact Or.inr rfl | with_reducible exact Or.inl trivial | with_reducible exact Or.inr trivial | (intro hz; exact absurd hz (by decide)) | (intro hz; exfalso; omega) | refine And.intro ?_ ?_ | intro _))
      all_goals skip
    | succ m ih =>
      intro k hk kk J g1 hJ hI hCJ
      subst g1
      have e6 : J 21 11 = N 6 := by rw [hJ.1.f (by unfold teX; omega)]; exact hCH.2.2.2.2.2.2.1
      have hO := hN.2.2.2.2.1 k (by omega) (by omega)
      unfold InvO at hO
      have hCO := hC.2.2.2.2.1 k (by omega) (by omega)
      unfold CbO at hCO
      have o1 : rd J (21 + 6) k = N (136 + 2 * (k : Int)) := by rw [hJ.1.r (by unfold teX; omega)]; exact hCO.1
      have o2 : rd J (21 + 7) k = N (136 + 2 * (k : Int) + 1) := by rw [hJ.1.r (by unfold teX; omega)]; exact hCO.2
      have hask := mj_ask0 (x : Int) (p := k) (by omega)
      refine x_hd false [21, 62] 40 ?_
      (repeat' (first | rw [e6] | rw [o1] | rw [o2] | exact tg_P hS hb (by omega) (by omega) | refine c_setPaper hS _ _ _ (tg_P hS hb (by omega) (by omega)) ?_ ?_ | with_reducible assumption | with_reducible exact rfl | with_reducible exact trivial | (with_reducible (show (_ : Int) ≤ _); omega) | (with_reducible (show (_ : Int) < _); omega) | (with_reducible (show (_ : Nat) < _); omega) | (with_reducible (show (_ : Nat) ≤ _); omega) | with_reducible exact Or.inl rfl | with_reducible exact Or.inr rfl | with_reducible exact Or.inl trivial | with_reducible exact Or.inr trivial | (intro hz; exact absurd hz (by decide)) | (intro hz; exfalso; omega) | refine And.intro ?_ ?_ | intro _))
      all_goals skip
  have loop1 : ∀ (m : Nat) (p : Int), 0 ≤ p → p + m = N 2 → ∀ (J : mj_I), fr (fun a => a = 121) I J → (∀ q, 0 ≤ q → q < p → rd J 121 q = N (8 + 8 * q + 3)) → xW d 149 2 [some (.inr (1, 0, 20, 0)), some (.inl (x : Int)), some (.inl p)] [] J S Q := by
    intro m
    induction m with
    | zero =>
      intro p p0 p1 J hJ g1
      have j1 : J 21 1 = N 2 := by rw [hJ.f (by omega)]; exact hCH.2.2.1
      refine x_hd false [2, 21] 30 ?_
      (repeat' (first | rw [j1] | with_reducible assumption | with_reducible exact rfl | with_reducible exact trivial | (with_reducible (show (_ : Int) ≤ _); omega) | (with_reducible (show (_ : Int) < _); omega) | (with_reducible (show (_ : Nat) < _); omega) | (with_reducible (show (_ : Nat) ≤ _); omega) | with_reducible exact Or.inl rfl | with_reducible exact Or.inr rfl | with_reducible exact Or.inl trivial | with_reducible exact Or.inr trivial | (intro hz; exact absurd hz (by decide)) | (intro hz; exfalso; omega) | refine And.intro ?_ ?_ | intro _))
      exact loop2 (N 6).toNat 0 (by omega) _ J rfl ⟨hJ.mo (fun a q => Or.inl q), fun a k a0 a1 _ => hJ.f (by omega) k, fun q _ _ _ => hJ _ (by omega), fun q q0 q1 => g1 q q0 (by omega)⟩ hN (hC.fr hN.1 hJ (fun a q => by unfold bc at q; omega))
    | succ m ih =>
      intro p p0 p1 J hJ g1
      have j1 : J 21 1 = N 2 := by rw [hJ.f (by omega)]; exact hCH.2.2.1
      have hCP := hC.2.1 p p0 (by omega)
      have j3 : J (21 + 15 + p.toNat) 3 = N (8 + 8 * p + 3) := by rw [hJ.f (by omega)]; exact hCP.2.2.2.1
      refine x_hd false [2, 21] 40 ?_
      (repeat' (first | rw [j1] | with_reducible assumption | with_reducible exact rfl | with_reducible exact trivial | (with_reducible (show (_ : Int) ≤ _); omega) | (with_reducible (show (_ : Int) < _); omega) | (with_reducible (show (_ : Nat) < _); omega) | (with_reducible (show (_ : Nat) ≤ _); omega) | with_reducible exact Or.inl rfl | with_reducible exact Or.inr rfl | with_reducible exact Or.inl trivial | with_reducible exact Or.inr trivial | (intro hz; exact absurd hz (by decide)) | (intro hz; exfalso; omega) | refine And.intro ?_ ?_ | intro _))
      refine ih (p + 1) (by omega) (by omega) _ (hJ.up rfl _ _) (fun q q0 q1 => ?_)
      rw [rd_up (by omega) (by omega)]
      by_cases e : q = p
      · rw [e, ru_s, j3]
      · rw [ru_n e]; exact g1 q q0 (by omega)
  refine x_C false [.inr (1, 0, 20, 0), .inl (x : Int)] [2] 30 hS ⟨xok_w hS, trivial, trivial⟩ ?_
  (repeat' (first | with_reducible assumption | with_reducible exact rfl | with_reducible exact trivial | (with_reducible (show (_ : Int) ≤ _); omega) | (with_reducible (show (_ : Int) < _); omega) | (with_reducible (show (_ : Nat) < _); omega) | (with_reducible (show (_ : Nat) ≤ _); omega) | with_reducible exact Or.inl rfl | with_reducible exact Or.inr rfl | with_reducible exact Or.inl trivial | with_reducible exact Or.inr trivial | (intro hz; exact absurd hz (by decide)) | (intro hz; exfalso; omega) | refine And.intro ?_ ?_ | intro _))
  exact loop1 (N 2).toNat 0 (by omega) (by omega) I fr.refl (fun q q0 q1 => by omega)
