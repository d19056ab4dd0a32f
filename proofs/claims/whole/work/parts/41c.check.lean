/-! check -/
def crN (M Tl : Int → Int) : Nat → Int → Int
  | 0, k => k
  | m + 1, k => if Tl k = ((allW M (abB M z0 (M 1 + k) 0)).length : Int) then crN M Tl m (k + 1) else k
theorem crN_b {M Tl : Int → Int} : ∀ (m : Nat) (k : Int), k ≤ crN M Tl m k ∧ crN M Tl m k ≤ k + m
  | 0, k => ⟨Int.le_refl _, by show k ≤ k + ((0 : Nat) : Int); omega⟩
  | m + 1, k => by
    have := crN_b (M := M) (Tl := Tl) m (k + 1)
    unfold crN
    split <;> omega
/-- 185 countRight -/
theorem c_countRight {d : Nat} {I : mj_I} {S : mj_S} {Q : mj_Q} (hS : mk_Sh S) {M : Int → Int} (hN : Inv M) (hC : Cb I S 61 M) (v t : Int) (hv : 1 ≤ v ∧ v ≤ 20) (ht : 0 ≤ t ∧ t ≤ 60) (hd : 10 < d)
    (h : ∀ J, fr (fun a => (101 ≤ a ∧ a ≤ 108) ∨ a = 73 ∨ a = 74) I J → Q (some (.inl (crN M (rd I 120) (min v t).toNat 0))) J S) : mj_C d 185 [.inr 20, .inl v, .inl t] I S Q := by
  have hH := hN.1
  have hCH := hC.1
  have hb : mB 61 := Or.inr rfl
  unfold InvH at hH
  unfold CbH at hCH
  generalize hT0 : crN M (rd I 120) (min v t).toNat 0 = T at h
  have loop : ∀ (m : Nat) (k : Int), 0 ≤ k → k + m = min v t → ∀ (mo al : Int) (w : Option xV) (J : mj_I), mo = min v t → fr (fun a => (101 ≤ a ∧ a ≤ 108) ∨ a = 73 ∨ a = 74) I J → (k = 0 ∨ OS M (M 1 + k - 1) J ∧ al = ((allW M (abB M z0 (M 1 + k - 1) 0)).length : Int)) → T = crN M (rd I 120) m k → xW d 185 8 [some (.inr (1, 0, 20, 0)), some (.inl v), some (.inl t), some (.inl mo), some (.inl al), some (.inl k), w] [] J S Q := by
    intro m
    induction m with
    | zero =>
      intro k k0 k1 mo al w J g1 hJ hp he
      refine x_hd false [8] 30 ?_
      (repeat' (first | with_reducible assumption | with_reducible exact rfl | with_reducible exact trivial | (with_reducible (show (_ : Int) ≤ _); omega) | (with_reducible (show (_ : Int) < _); omega) | (with_reducible (show (_ : Nat) < _); omega) | (with_reducible (show (_ : Nat) ≤ _); omega) | with_reducible exact Or.inl rfl | with_reducible exact Or.inr rfl | with_reducible exact Or.inl trivial | with_reducible exact Or.inr trivial | (intro hz; exact absurd hz (by decide)) | (intro hz; exfalso; omega) | refine And.intro ?_ ?_ | intro _))
      refine Qe (h J hJ) ?_
      rw [he]
      show k = mo
      omega
    | succ m ih =>
      intro k k0 k1 mo al w J g1 hJ hp he
      have j13 : J 61 13 = M 1 := by rw [hJ.f (by omega)]; exact hCH.2.1
      have j120 : rd J 120 = rd I 120 := hJ.r (by omega)
      have hCJ := hC.fr hN.1 hJ (fun a q => by unfold bc at q; omega)
      have s1 : rd I 120 k = ((allW M (abB M z0 (M 1 + k) 0)).length : Int) → crN M (rd I 120) (m + 1) k = crN M (rd I 120) m (k + 1) := fun q => if_pos q
      have s2 : ¬ rd I 120 k = ((allW M (abB M z0 (M 1 + k) 0)).length : Int) → crN M (rd I 120) (m + 1) k = k := fun q => if_neg q
      have fo : ∀ K, fr (fun a => (101 ≤ a ∧ a ≤ 107) ∨ a = 61 + 12 ∨ a = 61 + 13) J K → fr (fun a => (101 ≤ a ∧ a ≤ 108) ∨ a = 73 ∨ a = 74) I K := fun K hK => hJ.tr (hK.mo (fun a q => by omega))
      have nxt : ∀ (K : mj_I) (w : Option xV), fr (fun a => (101 ≤ a ∧ a ≤ 108) ∨ a = 73 ∨ a = 74) I K → OS M (M 1 + k) K → rd I 120 k = ((allW M (abB M z0 (M 1 + k) 0)).length : Int) → ∀ al2, al2 = ((allW M (abB M z0 (M 1 + k) 0)).length : Int) → xW d 185 8 [some (.inr (1, 0, 20, 0)), some (.inl v), some (.inl t), some (.inl mo), some (.inl al2), some (.inl (k + 1)), w] [] K S Q := by
        intro K w hK hO hq al2 hal
        refine ih (k + 1) (by omega) (by omega) mo al2 _ K g1 hK (Or.inr ?_) (by rw [he, s1 hq])
        rw [show M 1 + (k + 1) - 1 = M 1 + k by omega]
        exact ⟨hO, hal⟩
      refine x_hd false [8] 40 ?_
      (repeat' (first | rw [j13] | refine c_open hS hb hN hCJ _ ?_ (fun K hK hO hsa => ?_) (fun K hK hO => ?_) | refine c_countAll hS hN hO ?_ (fun A hA => ?_) | with_reducible assumption | with_reducible exact rfl | with_reducible exact trivial | (with_reducible (show (_ : Int) ≤ _); omega) | (with_reducible (show (_ : Int) < _); omega) | (with_reducible (show (_ : Nat) < _); omega) | (with_reducible (show (_ : Nat) ≤ _); omega) | with_reducible exact Or.inl rfl | with_reducible exact Or.inr rfl | with_reducible exact Or.inl trivial | with_reducible exact Or.inr trivial | (intro hz; exact absurd hz (by decide)) | (intro hz; exfalso; omega) | refine And.intro ?_ ?_ | intro _))
      · rename_i z
        have a120 : rd A 120 = rd I 120 := by rw [hA.r (by omega), hK.r (by omega), j120]
        have fA : fr (fun a => (101 ≤ a ∧ a ≤ 108) ∨ a = 73 ∨ a = 74) I A := (fo K hK).tr (hA.mo (fun a q => by omega))
        rw [a120] at z
        exact nxt A _ fA (hO.fr hA) z _ rfl
      · rename_i z
        have a120 : rd A 120 = rd I 120 := by rw [hA.r (by omega), hK.r (by omega), j120]
        have fA : fr (fun a => (101 ≤ a ∧ a ≤ 108) ∨ a = 73 ∨ a = 74) I A := (fo K hK).tr (hA.mo (fun a q => by omega))
        rw [a120] at z
        exact Qe (h A fA) (by rw [he, s2 z])
      · rename_i zk _ z
        have k120 : rd K 120 = rd I 120 := by rw [hK.r (by omega), j120]
        rw [k120] at z
        rcases hp with hp | ⟨hp1, hp2⟩
        · exact absurd hp zk
        · have hl : allW M (abB M z0 (M 1 + k) 0) = allW M (abB M z0 (M 1 + k - 1) 0) := all_cd hN (fun u u0 u1 => by rw [← hO.2.1 u u0 u1, ← hsa u u0 u1, hp1.2.1 u u0 u1])
          rw [← hl] at hp2
          exact nxt K _ (fo K hK) hO (by rw [z, hp2]) _ hp2
      · rename_i zk _ z
        have k120 : rd K 120 = rd I 120 := by rw [hK.r (by omega), j120]
        rw [k120] at z
        rcases hp with hp | ⟨hp1, hp2⟩
        · exact absurd hp zk
        · have hl : allW M (abB M z0 (M 1 + k) 0) = allW M (abB M z0 (M 1 + k - 1) 0) := all_cd hN (fun u u0 u1 => by rw [← hO.2.1 u u0 u1, ← hsa u u0 u1, hp1.2.1 u u0 u1])
          rw [← hl] at hp2
          exact Qe (h K (fo K hK)) (by rw [he, s2 (fun q => z (by rw [q, hp2]))])
      · rename_i z
        have a120 : rd A 120 = rd I 120 := by rw [hA.r (by omega), hK.r (by omega), j120]
        have fA : fr (fun a => (101 ≤ a ∧ a ≤ 108) ∨ a = 73 ∨ a = 74) I A := (fo K hK).tr (hA.mo (fun a q => by omega))
        rw [a120] at z
        exact nxt A _ fA (hO.fr hA) z _ rfl
      · rename_i z
        have a120 : rd A 120 = rd I 120 := by rw [hA.r (by omega), hK.r (by omega), j120]
        have fA : fr (fun a => (101 ≤ a ∧ a ≤ 108) ∨ a = 73 ∨ a = 74) I A := (fo K hK).tr (hA.mo (fun a q => by omega))
        rw [a120] at z
        exact Qe (h A fA) (by rw [he, s2 z])
      · rename_i z
        have a120 : rd A 120 = rd I 120 := by rw [hA.r (by omega), hK.r (by omega), j120]
        have fA : fr (fun a => (101 ≤ a ∧ a ≤ 108) ∨ a = 73 ∨ a = 74) I A := (fo K hK).tr (hA.mo (fun a q => by omega))
        rw [a120] at z
        exact nxt A _ fA (hO.fr hA) z _ rfl
      · rename_i z
        have a120 : rd A 120 = rd I 120 := by rw [hA.r (by omega), hK.r (by omega), j120]
        have fA : fr (fun a => (101 ≤ a ∧ a ≤ 108) ∨ a = 73 ∨ a = 74) I A := (fo K hK).tr (hA.mo (fun a q => by omega))
        rw [a120] at z
        exact Qe (h A fA) (by rw [he, s2 z])
  refine x_C false [.inr (1, 0, 20, 0), .inl v, .inl t] [8] 30 hS ⟨xok_w hS, trivial, trivial, trivial⟩ ?_
  exact loop (min v t).toNat 0 (by omega) (by omega) _ _ _ I rfl fr.refl (Or.inl rfl) hT0.symm
def ckS (N M Tl : Int → Int) (im t v : Int) : Int := if crN M Tl (min v t).toNat 0 = v ∧ t = v then 0 else 1 + crN M Tl (min v t).toNat 0
/-- 184 check, where it counts -/
theorem c_check {d : Nat} {I : mj_I} {S : mj_S} {Q : mj_Q} (hS : mk_Sh S) {M : Int → Int} (hN : Inv M) (hC : Cb I S 61 M) (v : Int) (hv : 1 ≤ v ∧ v ≤ 20) (ht : 0 ≤ I 20 9 ∧ I 20 9 ≤ 60) (h2 : I 20 2 = 1) (h9 : M 1 + v - 1 ≤ 999) (hd : 11 < d)
    (h : ∀ J, fr (fun a => a = 20 ∨ (101 ≤ a ∧ a ≤ 108) ∨ a = 73 ∨ a = 74) I J → (∀ k, k ≠ 9 → J 20 k = I 20 k) → J 20 9 = 0 → Q (some (.inl (ckS M M (rd I 120) 0 (I 20 9) v))) J S) : mj_C d 184 [.inr 20, .inl v] I S Q := by
  have hH := hN.1
  unfold InvH at hH
  have e13 : I 61 13 = M 1 := hC.1.2.1
  have hCJ : Cb (mj_up I 20 9 0) S 61 M := hC.fr hN.1 ((fr.refl (X := fun a => a = 20)).mu rfl _ _) (fun a q => by unfold bc at q; omega)
  have e2 : mj_up I 20 9 0 20 2 = 1 := by rw [mu_f (by omega)]; exact h2
  have e61 : mj_up I 20 9 0 61 13 = M 1 := by rw [mu_f (by omega)]; exact e13
  have cb := crN_b (M := M) (Tl := rd (mj_up I 20 9 0) 120) (min v (I 20 9)).toNat 0
  refine x_C false [.inr (1, 0, 20, 0), .inl v] [] 60 hS ⟨xok_w hS, trivial, trivial⟩ ?_
  (repeat' (first | rw [e2] | rw [e61] | refine c_within _ _ _ ?_ ?_ | refine c_countRight hS hN hCJ _ _ hv ht ?_ (fun J hJ => ?_) | with_reducible assumption | with_reducible exact rfl | with_reducible exact trivial | (with_reducible (show (_ : Int) ≤ _); omega) | (with_reducible (show (_ : Int) < _); omega) | (with_reducible (show (_ : Nat) < _); omega) | (with_reducible (show (_ : Nat) ≤ _); omega) | with_reducible exact Or.inl rfl | with_reducible exact Or.inr rfl | with_reducible exact Or.inl trivial | with_reducible exact Or.inr trivial | (intro hz; exact absurd hz (by decide)) | (intro hz; exfalso; omega) | refine And.intro ?_ ?_ | intro _))
  · rename_i z
    refine Qe (h J ?_ (fun k hk => by rw [hJ.f (by omega), mu_f (by omega)]) (by rw [hJ.f (by omega), mj_up_s])) ?_
    · exact ((fr.refl (X := fun a => a = 20 ∨ (101 ≤ a ∧ a ≤ 108) ∨ a = 73 ∨ a = 74)).mu (Or.inl rfl) _ _).tr (hJ.mo (fun a q => by omega))
    · rw [rd_mu (by omega)] at z ⊢
      unfold ckS
      rw [if_neg (fun q => z q.1)]
  · rename_i z1 z
    refine Qe (h J ?_ (fun k hk => by rw [hJ.f (by omega), mu_f (by omega)]) (by rw [hJ.f (by omega), mj_up_s])) ?_
    · exact ((fr.refl (X := fun a => a = 20 ∨ (101 ≤ a ∧ a ≤ 108) ∨ a = 73 ∨ a = 74)).mu (Or.inl rfl) _ _).tr (hJ.mo (fun a q => by omega))
    · rw [rd_mu (by omega)]
      unfold ckS
      rw [if_neg (fun q => z q.2)]
  · rename_i z1 z
    refine Qe (h J ?_ (fun k hk => by rw [hJ.f (by omega), mu_f (by omega)]) (by rw [hJ.f (by omega), mj_up_s])) ?_
    · exact ((fr.refl (X := fun a => a = 20 ∨ (101 ≤ a ∧ a ≤ 108) ∨ a = 73 ∨ a = 74)).mu (Or.inl rfl) _ _).tr (hJ.mo (fun a q => by omega))
    · rw [rd_mu (by omega)] at z1
      unfold ckS
      rw [if_pos ⟨z1, z⟩]
def ckM (a : Nat) : Prop := a = 150 ∨ a = 151 ∨ a = 153 ∨ a = 155 ∨ (162 ≤ a ∧ a ≤ 169)
/-- on the way through check -/
def ckJ (I J : mj_I) : Prop := fr ckM I J ∧ (∀ k, k ≠ 4 → k ≠ 26 → k ≠ 27 → k ≠ 28 → k ≠ 31 → k ≠ 32 → k ≠ 47 → J 150 k = I 150 k) ∧ J 150 47 = 0 ∧ rd J 151 = rd I 152 ∧ rd J 153 = rd I 151 ∧ J 150 4 = I 150 4 + 1 ∧ (J 150 27 = I 150 27 ∨ J 150 27 = I 150 4 + 1) ∧ RCa J
/-- 293 check, where it counts -/
theorem m_check {d : Nat} {I : mj_I} {S : mj_S} {Q : mj_Q} (hS : mk_Sh S) (hN : Inv (rd I 152)) (hM : RM I) (v : Int) (hv : 1 ≤ v ∧ v ≤ 20) (ht : 0 ≤ I 150 47 ∧ I 150 47 ≤ 60) (h3 : I 150 3 = 1) (h9 : rd I 152 1 + v - 1 ≤ 999) (hb : I 150 27 ≤ I 150 4) (h4 : 0 ≤ I 150 4 ∧ I 150 4 ≤ 100000) (hd : 5 < d)
    (h : ∀ J, fr ckM I J → (∀ k, k ≠ 4 → k ≠ 26 → k ≠ 27 → k ≠ 28 → k ≠ 31 → k ≠ 32 → k ≠ 47 → J 150 k = I 150 k) → J 150 47 = 0 → rd J 151 = rd I 151 → J 150 4 = I 150 4 + 2 → (J 150 27 = I 150 27 ∨ J 150 27 = I 150 4 + 1) → Q (some (.inl (ckS (rd I 152) (rd I 152) (rd I 180) 0 (I 150 47) v))) J S) : mj_C d 293 [.inr 150, .inl v] I S Q := by
  have hH := hN.1
  unfold InvH at hH
  obtain ⟨ok1, ok2, ok3⟩ := ok_row hS
  have cb := crN_b (M := rd I 152) (Tl := rd I 180) (min v (I 150 47)).toNat 0
  unfold ckS at h
  generalize hT0 : crN (rd I 152) (rd I 180) (min v (I 150 47)).toNat 0 = T at h cb
  have fin : ∀ (J : mj_I) (r kk : Int), ckJ I J → r = T → xW d 293 80 [some (.inr (13, 0, 150, 0)), some (.inl v), some (.inl (I 150 47)), some (.inl r), some (.inl kk)] [] J S Q := by
    intro J r kk ⟨j1, j2, j3, j4, j5, j6, j7, j8⟩ hr
    subst hr
    refine x_hd false [] 40 ?_
    (repeat' (first | refine m_copyAll hS _ _ ok3 ok1 (by omega) (fun A hA h151 => ?_) | with_reducible assumption | with_reducible exact rfl | with_reducible exact trivial | (with_reducible (show (_ : Int) ≤ _); omega) | (with_reducible (show (_ : Int) < _); omega) | (with_reducible (show (_ : Nat) < _); omega) | (with_reducible (show (_ : Nat) ≤ _); omega) | with_reducible exact Or.inl rfl | with_reducible exact Or.inr rfl | with_reducible exact Or.inl trivial | with_reducible exact Or.inr trivial | (intro hz; exact absurd hz (by decide)) | (intro hz; exfalso; omega) | refine And.intro ?_ ?_ | intro _))
    · rw [hA.f (by omega), j6]; omega
    · rw [hA.f (by omega), j6]; omega
    · rename_i z
      refine Qe (h (mj_up A 150 4 (A 150 4 + 1)) ((j1.tr (hA.mo (fun a q => by unfold ckM; omega))).mu (Or.inl rfl) _ _) (fun k a b c d e f g => by rw [mu_f (by omega), hA.f (by omega), j2 k a b c d e f g]) (by rw [mu_f (by omega), hA.f (by omega)]; exact j3) (by rw [rd_mu (by omega), h151, j5]) (by rw [mj_up_s, hA.f (by omega), j6]; omega) (by rw [mu_f (by omega), hA.f (by omega)]; exact j7)) ?_
      rw [if_neg (fun q => z (by omega))]
    · rename_i z1 z
      refine Qe (h (mj_up A 150 4 (A 150 4 + 1)) ((j1.tr (hA.mo (fun a q => by unfold ckM; omega))).mu (Or.inl rfl) _ _) (fun k a b c d e f g => by rw [mu_f (by omega), hA.f (by omega), j2 k a b c d e f g]) (by rw [mu_f (by omega), hA.f (by omega)]; exact j3) (by rw [rd_mu (by omega), h151, j5]) (by rw [mj_up_s, hA.f (by omega), j6]; omega) (by rw [mu_f (by omega), hA.f (by omega)]; exact j7)) ?_
      rw [if_neg (fun q => z q.1)]
    · rename_i z1 z
      refine Qe (h (mj_up A 150 4 (A 150 4 + 1)) ((j1.tr (hA.mo (fun a q => by unfold ckM; omega))).mu (Or.inl rfl) _ _) (fun k a b c d e f g => by rw [mu_f (by omega), hA.f (by omega), j2 k a b c d e f g]) (by rw [mu_f (by omega), hA.f (by omega)]; exact j3) (by rw [rd_mu (by omega), h151, j5]) (by rw [mj_up_s, hA.f (by omega), j6]; omega) (by rw [mu_f (by omega), hA.f (by omega)]; exact j7)) ?_
      rw [if_pos ⟨z, by omega⟩]
  have stop : ∀ (J : mj_I) (r : Int), ckJ I J → r = T → xW d 293 48 [some (.inr (13, 0, 150, 0)), some (.inl v), some (.inl (I 150 47)), some (.inl r), some (.inl (r + 1))] [] J S Q := by
    intro J r hJ hr
    refine x_hd false [48, 80] 30 ?_
    (repeat' (first | with_reducible assumption | with_reducible exact rfl | with_reducible exact trivial | (with_reducible (show (_ : Int) ≤ _); omega) | (with_reducible (show (_ : Int) < _); omega) | (with_reducible (show (_ : Nat) < _); omega) | (with_reducible (show (_ : Nat) ≤ _); omega) | with_reducible exact Or.inl rfl | with_reducible exact Or.inr rfl | with_reducible exact Or.inl trivial | with_reducible exact Or.inr trivial | (intro hz; exact absurd hz (by decide)) | (intro hz; exfalso; omega) | refine And.intro ?_ ?_ | intro _))
    all_goals exact fin J _ _ hJ hr
  have loop : ∀ (m : Nat) (k : Int), 0 ≤ k → k + m = min v (I 150 47) → ∀ (J : mj_I), ckJ I J → T = crN (rd I 152) (rd I 180) m k → xW d 293 48 [some (.inr (13, 0, 150, 0)), some (.inl v), some (.inl (I 150 47)), some (.inl k), some (.inl k)] [] J S Q := by
    intro m
    induction m with
    | zero =>
      intro k k0 k1 J hJ he
      refine x_hd false [48, 80] 30 ?_
      (repeat' (first | with_reducible assumption | with_reducible exact rfl | with_reducible exact trivial | (with_reducible (show (_ : Int) ≤ _); omega) | (with_reducible (show (_ : Int) < _); omega) | (with_reducible (show (_ : Nat) < _); omega) | (with_reducible (show (_ : Nat) ≤ _); omega) | with_reducible exact Or.inl rfl | with_reducible exact Or.inr rfl | with_reducible exact Or.inl trivial | with_reducible exact Or.inr trivial | (intro hz; exact absurd hz (by decide)) | (intro hz; exfalso; omega) | refine And.intro ?_ ?_ | intro _))
      all_goals exact fin J _ _ hJ he.symm
    | succ m ih =>
      intro k k0 k1 J hJ he
      have hJ' := hJ
      obtain ⟨j1, j2, j3, j4, j5, j6, j7, j8⟩ := hJ'
      have e152 : rd J 152 = rd I 152 := j1.r (by unfold ckM; omega)
      have hMJ : RM J := fun q q0 q1 => by rw [j1.r (by unfold ckM; omega)]; exact hM q q0 q1
      have s1 : rd I 180 k = ((allW (rd I 152) (abB (rd I 152) z0 (rd I 152 1 + k) 0)).length : Int) → crN (rd I 152) (rd I 180) (m + 1) k = crN (rd I 152) (rd I 180) m (k + 1) := fun q => if_pos q
      have s2 : ¬ rd I 180 k = ((allW (rd I 152) (abB (rd I 152) z0 (rd I 152 1 + k) 0)).length : Int) → crN (rd I 152) (rd I 180) (m + 1) k = k := fun q => if_neg q
      refine x_hd false [48, 80] 40 ?_
      (repeat' (first | rw [e152] | refine m_sweeps hS (by rw [j4]; exact hN) hMJ j8 _ ?_ (fun K hz hC => ?_) | with_reducible assumption | with_reducible exact rfl | with_reducible exact trivial | (with_reducible (show (_ : Int) ≤ _); omega) | (with_reducible (show (_ : Int) < _); omega) | (with_reducible (show (_ : Nat) < _); omega) | (with_reducible (show (_ : Nat) ≤ _); omega) | with_reducible exact Or.inl rfl | with_reducible exact Or.inr rfl | with_reducible exact Or.inl trivial | with_reducible exact Or.inr trivial | (intro hz; exact absurd hz (by decide)) | (intro hz; exfalso; omega) | refine And.intro ?_ ?_ | intro _))
      · have hK : ckJ I K := by
          refine ⟨j1.tr (hz.1.mo (fun a q => by unfold swX at q; unfold ckM; omega)), fun k a b c d e f g => by rw [hz.2.1 k b c d e f, j2 k a b c d e f g], by rw [hz.2.1 47 (by decide) (by decide) (by decide) (by decide) (by decide)]; exact j3, by rw [hz.1.r (by unfold swX; omega)]; exact j4, by rw [hz.1.r (by unfold swX; omega)]; exact j5, by rw [hz.2.1 4 (by decide) (by decide) (by decide) (by decide) (by decide)]; exact j6, Or.inr (by rw [hz.2.2.2]; exact j6), fun _ => ?_⟩
          rw [hz.1.r (a := 151) (by unfold swX; omega), hz.2.2.1]
          exact hC
        rename_i z
        rw [hz.1.r (by unfold swX; omega), j1.r (by unfold ckM; omega), hC.1, j4] at z
        rw [show k + 0 = k by omega]
        exact stop K k hK (by rw [he, s2 z])
      · have hK : ckJ I K := by
          refine ⟨j1.tr (hz.1.mo (fun a q => by unfold swX at q; unfold ckM; omega)), fun k a b c d e f g => by rw [hz.2.1 k b c d e f, j2 k a b c d e f g], by rw [hz.2.1 47 (by decide) (by decide) (by decide) (by decide) (by decide)]; exact j3, by rw [hz.1.r (by unfold swX; omega)]; exact j4, by rw [hz.1.r (by unfold swX; omega)]; exact j5, by rw [hz.2.1 4 (by decide) (by decide) (by decide) (by decide) (by decide)]; exact j6, Or.inr (by rw [hz.2.2.2]; exact j6), fun _ => ?_⟩
          rw [hz.1.r (a := 151) (by unfold swX; omega), hz.2.2.1]
          exact hC
        rename_i z
        rw [hz.1.r (by unfold swX; omega), j1.r (by unfold ckM; omega), hC.1, j4] at z
        exact ih (k + 1) (by omega) (by omega) K hK (by rw [he, s1 z])
  refine x_C false [.inr (13, 0, 150, 0), .inl v] [48] 60 hS ⟨xok_m hS, trivial, trivial⟩ ?_
  have e3 : mj_up I 150 47 0 150 3 = 1 := by rw [mu_f (by omega)]; exact h3
  have e152 : rd (mj_up I 150 47 0) 152 = rd I 152 := rd_mu (by omega)
  (repeat' (first | rw [e3] | rw [e152] | refine c_in _ _ _ ?_ ?_ | refine m_copyAll hS _ _ ok1 ok3 (by omega) (fun A hA h153 => ?_) | refine m_copyAll hS _ _ ok2 ok1 (by omega) (fun B hB h151 => ?_) | with_reducible assumption | with_reducible exact rfl | with_reducible exact trivial | (with_reducible (show (_ : Int) ≤ _); omega) | (with_reducible (show (_ : Int) < _); omega) | (with_reducible (show (_ : Nat) < _); omega) | (with_reducible (show (_ : Nat) ≤ _); omega) | with_reducible exact Or.inl rfl | with_reducible exact Or.inr rfl | with_reducible exact Or.inl trivial | with_reducible exact Or.inr trivial | (intro hz; exact absurd hz (by decide)) | (intro hz; exfalso; omega) | refine And.intro ?_ ?_ | intro _))
  · rw [hB.f (by omega), hA.f (by omega), mu_f (by omega)]; omega
  · rw [hB.f (by omega), hA.f (by omega), mu_f (by omega)]; omega
  · have eB : ∀ k, k ≠ 47 → B 150 k = I 150 k := fun k hk => by rw [hB.f (by omega), hA.f (by omega), mu_f (by omega)]
    refine loop (min v (I 150 47)).toNat 0 (by omega) (by omega) _ ⟨?_, fun k a b c d e f g => by rw [mu_f (by omega), eB k g], by rw [mu_f (by omega), hB.f (by omega), hA.f (by omega), mj_up_s], by rw [rd_mu (by omega), h151, hA.r (by omega), e152], by rw [rd_mu (by omega), hB.r (by omega), h153, rd_mu (by omega)], by rw [mj_up_s, eB 4 (by decide)], Or.inl (by rw [mu_f (by omega), eB 27 (by decide)]), fun q => ?_⟩ hT0.symm
    · exact ((((fr.refl (X := ckM)).mu (Or.inl rfl) _ _).tr (hA.mo (fun a q => by unfold ckM; omega))).tr (hB.mo (fun a q => by unfold ckM; omega))).mu (Or.inl rfl) _ _
    · rw [mu_f (by omega), mj_up_s, eB 27 (by decide), eB 4 (by decide)] at q
      omega
theorem P_check {L : Nat} {xs : Nat → Int32} {n : Nat} (v : Int) : Pair L xs n 184 293 [.inl v] := by
  intro I S hn hR
  have hR0 := hR
  obtain ⟨hS, hO, ⟨hN, hCb⟩, hI, hTp, hWt, hSh, hSl, hMo, hCa, hBd⟩ := hR
  have hH := hN.1
  have hCH := hCb.1
  have hb : mB 21 := Or.inl rfl
  unfold InvH at hH
  unfold CbH at hCH
  have hI2 := hI
  unfold RI at hI2
  have hW := hWt
  unfold RW at hW
  have hBd2 := hBd
  unfold RBd at hBd2
  by_cases hg : (1 ≤ v ∧ v ≤ 20) ∧ I 20 2 = 1 ∧ rd I 152 1 + v - 1 ≤ 999
  · obtain ⟨hNi, hCi⟩ := hI.2.2 hg.2.1
    refine c_check hS hNi hCi v hg.1 (by omega) hg.2.1 hg.2.2 (by omega) (fun K hK k1 k2 => ⟨_, rfl, ⟨hK 1 (by omega), rfl, rfl⟩, ?_⟩)
    have e150 : K 150 = I 150 := hK 150 (by omega)
    have e152 : rd K 152 = rd I 152 := hK.r (by omega)
    have hTl : ckS (rd I 152) (rd I 152) (rd I 120) 0 (I 20 9) v = ckS (rd K 152) (rd K 152) (rd K 180) 0 (K 150 47) v := by
      rw [e152, e150, hK.r (a := 180) (by omega), hW.1]
      unfold ckS
      have key : ∀ (m : Nat) (k : Int), 0 ≤ k → k + m ≤ I 150 47 → crN (rd I 152) (rd I 120) m k = crN (rd I 152) (rd I 180) m k := by
        intro m
        induction m with
        | zero => exact fun _ _ _ => rfl
        | succ m ih =>
          intro k k0 k1
          unfold crN
          rw [ih (k + 1) (by omega) (by omega), hW.2.2 k k0 (by omega)]
      rw [key _ 0 (by omega) (by omega)]
    rw [hTl]
    refine m_check hS (by rw [e152]; exact hNi) (fun q q0 q1 => by rw [hK.r (by omega)]; exact hMo q q0 q1) v hg.1 (by rw [e150]; omega) (by rw [e150]; omega) (by rw [e152]; exact hg.2.2) (by rw [e150]; omega) (by rw [e150]; omega) (by omega) (fun J hJ j1 j2 j3 j4 j5 => ⟨rfl, ?_⟩)
    rw [e150] at j1 j4 j5
    refine Rel_ck hn hR0 ((hK.mo (fun a q => by unfold ckX scr; omega)).tr (hJ.mo (fun a q => by unfold ckM at q; unfold ckX scr; omega))) (fun k hk => by rw [hJ.f (by unfold ckM; omega), k1 k hk]) (by rw [hJ.f (by unfold ckM; omega)]; exact k2) j1 j2 (by rw [j3, hK.r (by omega)]) j4 j5
  · have hg2 : ∃ w : Int, w = (if 1 ≤ v ∧ v ≤ 20 then -1000000002 else -1000000001) := ⟨_, rfl⟩
    obtain ⟨w, hw⟩ := hg2
    have e13 : I 20 2 = 1 → I 61 13 = rd I 152 1 ∧ 0 ≤ rd I 152 1 ∧ rd I 152 1 ≤ 999 := fun q => ⟨(hI.2.2 q).2.1.2.1, (hI.2.2 q).1.1.1⟩
    refine pair_ot hn hR0 w (fun K => K = mj_up I 20 9 0) (fun Q h => ?_) (fun K Q hK hP h150 h151 h => ?_)
    · have h' := h (mj_up I 20 9 0) ((fr.refl (X := ocl)).mu (Or.inl rfl) _ _) (fun k hk => mu_f (by omega)) rfl
      have e2 : mj_up I 20 9 0 20 2 = I 20 2 := mu_f (by omega)
      have e61 : mj_up I 20 9 0 61 13 = I 61 13 := mu_f (by omega)
      refine x_C false [.inr (1, 0, 20, 0), .inl v] [] 60 hS ⟨xok_w hS, trivial, trivial⟩ ?_
      (repeat' (first | rw [e2] | rw [e61] | refine c_within _ _ _ ?_ ?_ | with_reducible assumption | with_reducible exact rfl | with_reducible exact trivial | (with_reducible (show (_ : Int) ≤ _); omega) | (with_reducible (show (_ : Int) < _); omega) | (with_reducible (show (_ : Nat) < _); omega) | (with_reducible (show (_ : Nat) ≤ _); omega) | with_reducible exact Or.inl rfl | with_reducible exact Or.inr rfl | with_reducible exact Or.inl trivial | with_reducible exact Or.inr trivial | (intro hz; exact absurd hz (by decide)) | (intro hz; exfalso; omega) | refine And.intro ?_ ?_ | intro _))
      all_goals first
        | exact Qe h' (by rw [hw, if_pos (by assumption)])
        | exact Qe h' (by rw [hw, if_neg (by assumption)])
    · subst hP
      have e2 : (mj_up (mj_up I 20 9 0) 150 47 0) 150 3 = I 20 2 := by rw [mu_f (by omega), mu_f (by omega)]; exact hI.2.1
      have e152 : rd (mj_up (mj_up I 20 9 0) 150 47 0) 152 = rd I 152 := by rw [rd_mu (by omega), rd_mu (by omega)]
      have h' := h (mj_up (mj_up I 20 9 0) 150 47 0) ((fr.refl (X := omd)).mu (Or.inl rfl) _ _) (fun k h8 h47 => mu_f (by omega)) (RT_s hTp (by rw [mu_f (by omega), mu_f (by omega)]) (by rw [mu_f (by omega), mu_f (by omega)]) (by rw [rd_mu (by omega), rd_mu (by omega)]) (by rw [rd_mu (by omega), rd_mu (by omega)])) (by
        unfold RW
        rw [mu_f (by omega), mj_up_s, mj_up_s]
        exact ⟨rfl, by omega, fun k k0 k1 => by omega⟩) (RSh_s hSh (fun a a0 a1 => by rw [mu_o (by omega), mu_o (by omega)]) (by rw [rd_mu (by omega), rd_mu (by omega)]) (by rw [rd_mu (by omega), rd_mu (by omega)]) (by rw [rd_mu (by omega), rd_mu (by omega)])) (RSl_s hSl (fun a a0 a1 => by rw [mu_o (by omega), mu_o (by omega)]) (by rw [rd_mu (by omega), rd_mu (by omega)]) (by rw [rd_mu (by omega), rd_mu (by omega)]) (by rw [rd_mu (by omega), rd_mu (by omega)]) (by rw [rd_mu (by omega), rd_mu (by omega)]))
      refine x_C false [.inr (13, 0, 150, 0), .inl v] [] 60 hS ⟨xok_m hS, trivial, trivial⟩ ?_
      (repeat' (first | rw [e2] | rw [e152] | refine c_in _ _ _ ?_ ?_ | with_reducible assumption | with_reducible exact rfl | with_reducible exact trivial | (with_reducible (show (_ : Int) ≤ _); omega) | (with_reducible (show (_ : Int) < _); omega) | (with_reducible (show (_ : Nat) < _); omega) | (with_reducible (show (_ : Nat) ≤ _); omega) | with_reducible exact Or.inl rfl | with_reducible exact Or.inr rfl | with_reducible exact Or.inl trivial | with_reducible exact Or.inr trivial | (intro hz; exact absurd hz (by decide)) | (intro hz; exfalso; omega) | refine And.intro ?_ ?_ | intro _))
      all_goals first
        | exact Qe h' (by rw [hw, if_pos (by assumption)])
        | exact Qe h' (by rw [hw, if_neg (by assumption)])
