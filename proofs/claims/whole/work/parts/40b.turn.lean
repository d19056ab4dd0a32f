/-! queue -/
def lnO (N : Int → Int) : Int → Int := (lnN N (N 2).toNat).2.1
def lnn (N : Int → Int) : Nat := (lnN N (N 2).toNat).1
def quW (N : Int → Int) : Int → Int := rns N (lnO N) (lnn N) 7 (sgn N)
def cnN (W : Int → Int) : Nat → Int
  | 0 => 0
  | s + 1 => cnN W s + (if 0 ≤ W s then 1 else 0)
theorem cnN_b (W : Int → Int) : ∀ n, 0 ≤ cnN W n ∧ cnN W n ≤ n
  | 0 => ⟨Int.le_refl 0, Int.le_refl 0⟩
  | n + 1 => by
    have := cnN_b W n
    unfold cnN
    split <;> omega
def quS (N : Int → Int) (v : Int) : Int := if ¬ (-1 ≤ v ∧ v ≤ N 3 - 1) then -1000000001 else if v < 0 then cnN (quW N) (N 3).toNat else if quW N v < 0 then -1000000005 else quW N v
theorem ln_b {N : Int → Int} (h : 0 ≤ N 2) : (lnn N : Int) ≤ N 2 ∧ ∀ q : Int, 0 ≤ q → q < 0 + (lnn N : Int) → 0 ≤ lnO N q ∧ lnO N q < N 2 := by
  have a := lnN_b (N := N) (N 2).toNat
  refine ⟨by unfold lnn; omega, fun q q0 q1 => ?_⟩
  have := a.2 q q0 (by unfold lnn at q1; omega)
  unfold lnO
  omega
/-- 159 turnUp -/
theorem c_turnUp {d : Nat} {I : mj_I} {S : mj_S} {Q : mj_Q} (hS : mk_Sh S) {N : Int → Int} (hN : Inv N) (hC : Cb I S 21 N) (hd : 4 < d)
    (h : ∀ J, fr (fun a => (33 ≤ a ∧ a ≤ 35) ∨ (112 ≤ a ∧ a ≤ 114)) I J → (∀ q, 0 ≤ q → q < 6 → rd J 35 q = quW N q) → Q (some (.inr 35)) J S) : mj_C d 159 [.inr 112, .inr 21] I S Q := by
  have hH := hN.1
  have hCH := hC.1
  have hb : mB 21 := Or.inl rfl
  unfold InvH at hH
  unfold CbH at hCH
  obtain ⟨hn1, hO1⟩ := ln_b (N := N) (by omega)
  generalize hT : quW N = T at h
  have loop : ∀ (f : Nat), f ≤ 7 → ∀ (V : Int → Int) (g ro : Int) (w : Option xV) (J : mj_I), ro = 7 - f → (g = 0 ∧ T = V ∨ g = 1 ∧ T = rns N (lnO N) (lnn N) f V) → (∀ q, -1 ≤ V q ∧ V q < N 2) → fr (fun a => (33 ≤ a ∧ a ≤ 35) ∨ (112 ≤ a ∧ a ≤ 114)) I J → (∀ q, 0 ≤ q → q < 6 → rd J 35 q = V q) → J 112 2 = (lnn N : Int) → (∀ q : Int, 0 ≤ q → q < lnn N → rd J 113 q = lnO N q) → xW d 159 10 [some (.inr (8, 0, 112, 0)), some (.inr (2, 21, 21, 0)), some (.inr (21, 0, 35, 6)), some (.inl g), some (.inl ro), w] [] J S Q := by
    intro f
    induction f with
    | zero =>
      intro _ V g ro w J g1 g2 hV hJ hr j2 j3
      have eT : T = V := by
        rcases g2 with ⟨_, g2⟩ | ⟨_, g2⟩
        · exact g2
        · exact g2
      refine x_hd false [10] 30 ?_
      (repeat' (first | with_reducible assumption | with_reducible exact rfl | with_reducible exact trivial | (with_reducible (show (_ : Int) ≤ _); omega) | (with_reducible (show (_ : Int) < _); omega) | (with_reducible (show (_ : Nat) < _); omega) | (with_reducible (show (_ : Nat) ≤ _); omega) | with_reducible exact Or.inl rfl | with_reducible exact Or.inr rfl | with_reducible exact Or.inl trivial | with_reducible exact Or.inr trivial | (intro hz; exact absurd hz (by decide)) | (intro hz; exfalso; omega) | refine And.intro ?_ ?_ | intro _))
      exact h J hJ (fun q q0 q1 => by rw [eT]; exact hr q q0 q1)
    | succ f ih =>
      intro hf V g ro w J g1 g2 hV hJ hr j2 j3
      rcases g2 with ⟨g0, g2⟩ | ⟨g0, g2⟩
      · subst g0
        refine x_hd false [10] 30 ?_
        (repeat' (first | with_reducible assumption | with_reducible exact rfl | with_reducible exact trivial | (with_reducible (show (_ : Int) ≤ _); omega) | (with_reducible (show (_ : Int) < _); omega) | (with_reducible (show (_ : Nat) < _); omega) | (with_reducible (show (_ : Nat) ≤ _); omega) | with_reducible exact Or.inl rfl | with_reducible exact Or.inr rfl | with_reducible exact Or.inl trivial | with_reducible exact Or.inr trivial | (intro hz; exact absurd hz (by decide)) | (intro hz; exfalso; omega) | refine And.intro ?_ ?_ | intro _))
        exact h J hJ (fun q q0 q1 => by rw [g2]; exact hr q q0 q1)
      · subst g0
        have inner : ∀ (m : Nat) (k : Int), 0 ≤ k → k + m = lnn N → ∀ (U : Int → Int) (y : Int) (b : Bool) (K : mj_I), y = (if b = true then 1 else 0) → (∀ q, -1 ≤ U q ∧ U q < N 2) → fr (fun a => (33 ≤ a ∧ a ≤ 35) ∨ (112 ≤ a ∧ a ≤ 114)) I K → (∀ q, 0 ≤ q → q < 6 → rd K 35 q = U q) → K 112 2 = (lnn N : Int) → (∀ q : Int, 0 ≤ q → q < lnn N → rd K 113 q = lnO N q) → rd1 N (lnO N) (lnn N) 0 false V = rd1 N (lnO N) m k b U → xW d 159 19 [some (.inr (8, 0, 112, 0)), some (.inr (2, 21, 21, 0)), some (.inr (21, 0, 35, 6)), some (.inl y), some (.inl ro), some (.inl k)] [] K S Q := by
          intro m
          induction m with
          | zero =>
            intro k k0 k1 U y b K hy hU hK hrK k2 k3 he
            refine x_hd false [10, 19] 30 ?_
            (repeat' (first | rw [k2] | with_reducible assumption | with_reducible exact rfl | with_reducible exact trivial | (with_reducible (show (_ : Int) ≤ _); omega) | (with_reducible (show (_ : Int) < _); omega) | (with_reducible (show (_ : Nat) < _); omega) | (with_reducible (show (_ : Nat) ≤ _); omega) | with_reducible exact Or.inl rfl | with_reducible exact Or.inr rfl | with_reducible exact Or.inl trivial | with_reducible exact Or.inr trivial | (intro hz; exact absurd hz (by decide)) | (intro hz; exfalso; omega) | refine And.intro ?_ ?_ | intro _))
            refine ih (by omega) U y _ _ K (by omega) ?_ hU hK hrK k2 k3
            have he2 : rd1 N (lnO N) (lnn N) 0 false V = (b, U) := he
            unfold rns at g2
            rw [he2] at g2
            cases b with
            | true => right; exact ⟨hy, by rw [g2, if_pos rfl]⟩
            | false => left; exact ⟨hy, by rw [g2, if_neg Bool.false_ne_true]⟩
          | succ m ihm =>
            intro k k0 k1 U y b K hy hU hK hrK k2 k3 he
            have hCK := hC.fr hN.1 hK (fun a q => by unfold bc at q; omega)
            have eo := k3 k k0 (by omega)
            have hob := hO1 k k0 (by omega)
            have nxt : ∀ (A : mj_I) (y2 : Int), fr (fun a => a = 33 ∨ a = 34 ∨ a = 35) K A → (∀ q, 0 ≤ q → q < 6 → rd A 35 q = (tk1 N (lnO N k) (N 3).toNat 0 U).2 q) → y2 = (if ((tk1 N (lnO N k) (N 3).toNat 0 U).1 || b) = true then 1 else 0) → xW d 159 19 [some (.inr (8, 0, 112, 0)), some (.inr (2, 21, 21, 0)), some (.inr (21, 0, 35, 6)), some (.inl y2), some (.inl ro), some (.inl (k + 1))] [] A S Q := by
              intro A y2 hA hrA hy2
              exact ihm (k + 1) (by omega) (by omega) _ y2 _ A hy2 (tk1_b hob _ _ _ hU) (hK.tr (hA.mo (fun a q => by omega))) hrA (by rw [hA.f (by omega)]; exact k2) (fun q q0 q1 => by rw [hA.r (by omega)]; exact k3 q q0 q1) he
            refine x_hd false [10, 19] 40 ?_
            (repeat' (first | rw [k2] | rw [eo] | refine c_takeOne hS hN hCK _ ?_ ?_ hU hrK (fun A hA hrA => ?_) | with_reducible assumption | with_reducible exact rfl | with_reducible exact trivial | (with_reducible (show (_ : Int) ≤ _); omega) | (with_reducible (show (_ : Int) < _); omega) | (with_reducible (show (_ : Nat) < _); omega) | (with_reducible (show (_ : Nat) ≤ _); omega) | with_reducible exact Or.inl rfl | with_reducible exact Or.inr rfl | with_reducible exact Or.inl trivial | with_reducible exact Or.inr trivial | (intro hz; exact absurd hz (by decide)) | (intro hz; exfalso; omega) | refine And.intro ?_ ?_ | intro _))
            · rename_i z
              refine nxt A 1 hA hrA ?_
              cases e : (tk1 N (lnO N k) (N 3).toNat 0 U).1 with
              | true => rfl
              | false => rw [e] at z; exact absurd rfl z
            · rename_i z y0
              refine nxt A 0 hA hrA ?_
              cases e : (tk1 N (lnO N k) (N 3).toNat 0 U).1 with
              | true => rw [e] at z; exact absurd z (by decide)
              | false =>
                cases b with
                | true => rw [y0] at hy; exact absurd hy (by decide)
                | false => rfl
            · rename_i z y0
              refine nxt A 1 hA hrA ?_
              cases b with
              | true => rw [Bool.or_true]; rfl
              | false => exact absurd hy y0
        refine x_hd false [10, 19] 30 ?_
        (repeat' (first | with_reducible assumption | with_reducible exact rfl | with_reducible exact trivial | (with_reducible (show (_ : Int) ≤ _); omega) | (with_reducible (show (_ : Int) < _); omega) | (with_reducible (show (_ : Nat) < _); omega) | (with_reducible (show (_ : Nat) ≤ _); omega) | with_reducible exact Or.inl rfl | with_reducible exact Or.inr rfl | with_reducible exact Or.inl trivial | with_reducible exact Or.inr trivial | (intro hz; exact absurd hz (by decide)) | (intro hz; exfalso; omega) | refine And.intro ?_ ?_ | intro _))
        exact inner (lnn N) 0 (by omega) (by omega) V 0 false J rfl hV hJ hr j2 j3 rfl
  refine x_C false [.inr (8, 0, 112, 0), .inr (2, 21, 21, 0)] [10] 30 hS ⟨xok_tu hS, xok_b hS hb, trivial⟩ ?_
  (repeat' (first | refine c_lineUp hS hN hC ?_ (fun J hJ j2 j3 => ?_) | refine c_signers hS hb hN (hC.fr hN.1 hJ (fun a q => by unfold bc at q; omega)) ?_ (fun K hK hrK => ?_) | refine ⟨(21, 0, 21 + 14, 6), ⟨rfl, ok_do hS hb⟩, ?_⟩ | with_reducible assumption | with_reducible exact rfl | with_reducible exact trivial | (with_reducible (show (_ : Int) ≤ _); omega) | (with_reducible (show (_ : Int) < _); omega) | (with_reducible (show (_ : Nat) < _); omega) | (with_reducible (show (_ : Nat) ≤ _); omega) | with_reducible exact Or.inl rfl | with_reducible exact Or.inr rfl | with_reducible exact Or.inl trivial | with_reducible exact Or.inr trivial | (intro hz; exact absurd hz (by decide)) | (intro hz; exfalso; omega) | refine And.intro ?_ ?_ | intro _))
  refine loop 7 (Nat.le_refl 7) (sgn N) 1 0 _ K (by omega) (Or.inr ⟨rfl, hT.symm⟩) (sgn_b hN) ((hJ.mo (fun a q => by omega)).tr (hK.mo (fun a q => by omega))) hrK ?_ (fun q q0 q1 => ?_)
  · rw [hK.f (by omega)]; exact j2
  · rw [hK.r (by omega)]; exact j3 q q0 q1
theorem P_queue {L : Nat} {xs : Nat → Int32} {n : Nat} (v : Int) : Pair L xs n 158 275 [.inl v] := by
  refine pair_ro (fun N _ => quS N v) (fun _ _ _ => rfl) (fun I S Q hR h => ?_) (fun I S Q hR h => ?_)
  · obtain ⟨hS, hO, ⟨hN, hCb⟩, hI, hTp, hWt, hSh, hSl, hMo, hCa, hBd⟩ := hR
    have hH := hN.1
    have hCH := hCb.1
    have hb : mB 21 := Or.inl rfl
    unfold InvH at hH
    unfold CbH at hCH
    have e3 : I 21 3 = rd I 151 3 := hCH.2.2.2.1
    have loop : v < 0 → -1 ≤ v → ∀ m k : Nat, (k + m : Int) = rd I 151 3 → ∀ (c kk : Int) (J : mj_I), kk = k → c = cnN (quW (rd I 151)) k → fr scr I J → (∀ q, 0 ≤ q → q < 6 → rd J 35 q = quW (rd I 151) q) → xW 400 158 33 [some (.inr (1, 0, 20, 0)), some (.inl v), some (.inr (21, 0, 35, 6)), some (.inl c), some (.inl kk)] [] J S Q := by
      intro v0 v1 m
      induction m with
      | zero =>
        intro k hk c kk J g1 g2 hJ hr
        have j3 : J 21 3 = rd I 151 3 := by rw [hJ.f (by unfold scr; omega)]; exact e3
        refine x_hd false [33] 30 ?_
        (repeat' (first | rw [j3] | with_reducible assumption | with_reducible exact rfl | with_reducible exact trivial | (with_reducible (show (_ : Int) ≤ _); omega) | (with_reducible (show (_ : Int) < _); omega) | (with_reducible (show (_ : Nat) < _); omega) | (with_reducible (show (_ : Nat) ≤ _); omega) | with_reducible exact Or.inl rfl | with_reducible exact Or.inr rfl | with_reducible exact Or.inl trivial | with_reducible exact Or.inr trivial | (intro hz; exact absurd hz (by decide)) | (intro hz; exfalso; omega) | refine And.intro ?_ ?_ | intro _))
        refine Qe (h J hJ) ?_
        unfold quS
        rw [if_neg (by omega), if_pos v0, g2, show (rd I 151 3).toNat = k by omega]
      | succ m ih =>
        intro k hk c kk J g1 g2 hJ hr
        subst g1
        have j3 : J 21 3 = rd I 151 3 := by rw [hJ.f (by unfold scr; omega)]; exact e3
        have er := hr k (by omega) (by omega)
        have cb := cnN_b (quW (rd I 151)) k
        refine x_hd false [33] 40 ?_
        (repeat' (first | rw [j3] | rw [er] | refine c_oneIf _ ?_ ?_ | with_reducible assumption | with_reducible exact rfl | with_reducible exact trivial | (with_reducible (show (_ : Int) ≤ _); omega) | (with_reducible (show (_ : Int) < _); omega) | (with_reducible (show (_ : Nat) < _); omega) | (with_reducible (show (_ : Nat) ≤ _); omega) | with_reducible exact Or.inl rfl | with_reducible exact Or.inr rfl | with_reducible exact Or.inl trivial | with_reducible exact Or.inr trivial | (intro hz; exact absurd hz (by decide)) | (intro hz; exfalso; omega) | refine And.intro ?_ ?_ | intro _))
        · rename_i z _
          refine ih (k + 1) (by omega) _ _ J (by omega) ?_ hJ hr
          show c + 0 = cnN (quW (rd I 151)) k + (if 0 ≤ quW (rd I 151) k then 1 else 0)
          rw [if_neg (by omega), g2]
        · rename_i z _
          refine ih (k + 1) (by omega) _ _ J (by omega) ?_ hJ hr
          show c + 1 = cnN (quW (rd I 151)) k + (if 0 ≤ quW (rd I 151) k then 1 else 0)
          rw [if_pos (by omega), g2]
    refine x_C false [.inr (1, 0, 20, 0), .inl v] [33] 60 hS ⟨xok_w hS, trivial, trivial⟩ ?_
    (repeat' (first | rw [e3] | refine c_within _ _ _ ?_ ?_ | refine c_turnUp hS hN hCb ?_ (fun J hJ hr => ?_) | refine ⟨(21, 0, 35, 6), ⟨rfl, ok_do hS hb⟩, ?_⟩ | with_reducible assumption | with_reducible exact rfl | with_reducible exact trivial | (with_reducible (show (_ : Int) ≤ _); omega) | (with_reducible (show (_ : Int) < _); omega) | (with_reducible (show (_ : Nat) < _); omega) | (with_reducible (show (_ : Nat) ≤ _); omega) | with_reducible exact Or.inl rfl | with_reducible exact Or.inr rfl | with_reducible exact Or.inl trivial | with_reducible exact Or.inr trivial | (intro hz; exact absurd hz (by decide)) | (intro hz; exfalso; omega) | refine And.intro ?_ ?_ | intro _))
    · rename_i z _ y
      exact loop y z.1 (rd I 151 3).toNat 0 (by omega) _ _ J rfl rfl (hJ.mo (fun a q => by unfold scr; omega)) hr
    · rename_i z _ y1 y2
      have er := hr v (by omega) (by omega)
      rw [er] at y2
      refine Qe (h J (hJ.mo (fun a q => by unfold scr; omega))) ?_
      unfold quS
      rw [if_neg (by omega), if_neg y1, if_neg (by omega), er]
    · rename_i z _ y1 y2
      have er := hr v (by omega) (by omega)
      rw [er] at y2
      refine Qe (h J (hJ.mo (fun a q => by unfold scr; omega))) ?_
      unfold quS
      rw [if_neg (by omega), if_neg y1, if_pos (by omega)]
    · rename_i z _
      refine Qe (h I fr.refl) ?_
      unfold quS
      rw [if_pos z]
  · obtain ⟨hS, hO, ⟨hN, hCb⟩, hI, hTp, hWt, hSh, hSl, hMo, hCa, hBd⟩ := hR
    have hH := hN.1
    have hCH := hCb.1
    have hb : mB 21 := Or.inl rfl
    unfold InvH at hH
    unfold CbH at hCH
    obtain ⟨hn1, hO1⟩ := ln_b (N := rd I 151) (by omega)
    have fin : ∀ (J : mj_I) (n : Int) (a w4 w5 : Option xV), fr scr I J → (∀ q, 0 ≤ q → q < 6 → rd J 155 q = quW (rd I 151) q) → (-1 ≤ v ∧ v ≤ rd I 151 3 - 1) → ∀ m k : Nat, (k + m : Int) = rd I 151 3 → ∀ (c kk : Int), kk = k → c = cnN (quW (rd I 151)) k → xW 400 275 48 [some (.inr (13, 0, 150, 0)), some (.inl v), some (.inl n), a, some (.inl c), some (.inl kk)] [] J S Q := by
      intro J n a w4 w5 hJ hr hv m
      have e151 : rd J 151 = rd I 151 := hJ.r (by unfold scr; omega)
      induction m with
      | zero =>
        intro k hk c kk g1 g2
        refine x_hd false [48] 40 ?_
        (repeat' (first | rw [e151] | refine m_orNone _ ?_ | with_reducible assumption | with_reducible exact rfl | with_reducible exact trivial | (with_reducible (show (_ : Int) ≤ _); omega) | (with_reducible (show (_ : Int) < _); omega) | (with_reducible (show (_ : Nat) < _); omega) | (with_reducible (show (_ : Nat) ≤ _); omega) | with_reducible exact Or.inl rfl | with_reducible exact Or.inr rfl | with_reducible exact Or.inl trivial | with_reducible exact Or.inr trivial | (intro hz; exact absurd hz (by decide)) | (intro hz; exfalso; omega) | refine And.intro ?_ ?_ | intro _))
        · rename_i y
          have er := hr v (by omega) (by omega)
          refine Qe (h J hJ) ?_
          unfold quS
          rw [if_neg (by omega), if_neg (by omega), er]
        · rename_i y
          refine Qe (h J hJ) ?_
          unfold quS
          rw [if_neg (by omega), if_pos (by omega), g2, show (rd I 151 3).toNat = k by omega]
      | succ m ih =>
        intro k hk c kk g1 g2
        subst g1
        have er := hr k (by omega) (by omega)
        have cb := cnN_b (quW (rd I 151)) k
        refine x_hd false [48] 40 ?_
        (repeat' (first | rw [e151] | rw [er] | with_reducible assumption | with_reducible exact rfl | with_reducible exact trivial | (with_reducible (show (_ : Int) ≤ _); omega) | (with_reducible (show (_ : Int) < _); omega) | (with_reducible (show (_ : Nat) < _); omega) | (with_reducible (show (_ : Nat) ≤ _); omega) | with_reducible exact Or.inl rfl | with_reducible exact Or.inr rfl | with_reducible exact Or.inl trivial | with_reducible exact Or.inr trivial | (intro hz; exact absurd hz (by decide)) | (intro hz; exfalso; omega) | refine And.intro ?_ ?_ | intro _))
        · rename_i z 
          refine ih (k + 1) (by omega) _ _ (by omega) ?_
          show c + 0 = cnN (quW (rd I 151)) k + (if 0 ≤ quW (rd I 151) k then 1 else 0)
          rw [if_neg (by omega), g2]
        · rename_i z 
          refine ih (k + 1) (by omega) _ _ (by omega) ?_
          show c + 1 = cnN (quW (rd I 151)) k + (if 0 ≤ quW (rd I 151) k then 1 else 0)
          rw [if_pos (by omega), g2]
    have loop : (-1 ≤ v ∧ v ≤ rd I 151 3 - 1) → ∀ (f : Nat) (V : Int → Int) (g : Int) (w4 w5 : Option xV) (J : mj_I), (g = 0 ∧ quW (rd I 151) = V ∨ g = 1 ∧ quW (rd I 151) = rns (rd I 151) (lnO (rd I 151)) (lnn (rd I 151)) f V ∧ frN V (rd I 151 3).toNat < f) → (∀ q, -1 ≤ V q ∧ V q < rd I 151 2) → fr scr I J → (∀ q, 0 ≤ q → q < 6 → rd J 155 q = V q) → (∀ q : Int, 0 ≤ q → q < lnn (rd I 151) → rd J 170 q = lnO (rd I 151) q) → xW 400 275 19 [some (.inr (13, 0, 150, 0)), some (.inl v), some (.inl (lnn (rd I 151) : Int)), some (.inl g), w4, w5] [] J S Q := by
      intro hv f
      induction f with
      | zero =>
        intro V g w4 w5 J g2 hV hJ hr j3
        rcases g2 with ⟨g0, g2⟩ | ⟨g0, g2, g3⟩
        · subst g0
          refine x_hd false [19, 48] 30 ?_
          (repeat' (first | with_reducible assumption | with_reducible exact rfl | with_reducible exact trivial | (with_reducible (show (_ : Int) ≤ _); omega) | (with_reducible (show (_ : Int) < _); omega) | (with_reducible (show (_ : Nat) < _); omega) | (with_reducible (show (_ : Nat) ≤ _); omega) | with_reducible exact Or.inl rfl | with_reducible exact Or.inr rfl | with_reducible exact Or.inl trivial | with_reducible exact Or.inr trivial | (intro hz; exact absurd hz (by decide)) | (intro hz; exfalso; omega) | refine And.intro ?_ ?_ | intro _))
          exact fin J _ _ none none hJ (fun q q0 q1 => by rw [g2]; exact hr q q0 q1) hv (rd I 151 3).toNat 0 (by omega) _ _ rfl rfl
        · have := (frN_b V (rd I 151 3).toNat).1
          exfalso
          omega
      | succ f ih =>
        intro V g w4 w5 J g2 hV hJ hr j3
        rcases g2 with ⟨g0, g2⟩ | ⟨g0, g2, g3⟩
        · subst g0
          refine x_hd false [19, 48] 30 ?_
          (repeat' (first | with_reducible assumption | with_reducible exact rfl | with_reducible exact trivial | (with_reducible (show (_ : Int) ≤ _); omega) | (with_reducible (show (_ : Int) < _); omega) | (with_reducible (show (_ : Nat) < _); omega) | (with_reducible (show (_ : Nat) ≤ _); omega) | with_reducible exact Or.inl rfl | with_reducible exact Or.inr rfl | with_reducible exact Or.inl trivial | with_reducible exact Or.inr trivial | (intro hz; exact absurd hz (by decide)) | (intro hz; exfalso; omega) | refine And.intro ?_ ?_ | intro _))
          exact fin J _ _ none none hJ (fun q q0 q1 => by rw [g2]; exact hr q q0 q1) hv (rd I 151 3).toNat 0 (by omega) _ _ rfl rfl
        · subst g0
          have hff := rd1_f (N := rd I 151) (O := lnO (rd I 151)) (lnn (rd I 151)) 0 false V (by omega) (fun q q0 q1 => (hO1 q q0 q1).1)
          have inner : ∀ (m : Nat) (k : Int), 0 ≤ k → k + m = lnn (rd I 151) → ∀ (U : Int → Int) (y : Int) (b : Bool) (w5 : Option xV) (K : mj_I), y = (if b = true then 1 else 0) → (∀ q, -1 ≤ U q ∧ U q < rd I 151 2) → fr scr I K → (∀ q, 0 ≤ q → q < 6 → rd K 155 q = U q) → (∀ q : Int, 0 ≤ q → q < lnn (rd I 151) → rd K 170 q = lnO (rd I 151) q) → rd1 (rd I 151) (lnO (rd I 151)) (lnn (rd I 151)) 0 false V = rd1 (rd I 151) (lnO (rd I 151)) m k b U → xW 400 275 25 [some (.inr (13, 0, 150, 0)), some (.inl v), some (.inl (lnn (rd I 151) : Int)), some (.inl y), some (.inl k), w5] [] K S Q := by
            intro m
            induction m with
            | zero =>
              intro k k0 k1 U y b w5 K hy hU hK hrK k3 he
              refine x_hd false [19, 25] 30 ?_
              (repeat' (first | with_reducible assumption | with_reducible exact rfl | with_reducible exact trivial | (with_reducible (show (_ : Int) ≤ _); omega) | (with_reducible (show (_ : Int) < _); omega) | (with_reducible (show (_ : Nat) < _); omega) | (with_reducible (show (_ : Nat) ≤ _); omega) | with_reducible exact Or.inl rfl | with_reducible exact Or.inr rfl | with_reducible exact Or.inl trivial | with_reducible exact Or.inr trivial | (intro hz; exact absurd hz (by decide)) | (intro hz; exfalso; omega) | refine And.intro ?_ ?_ | intro _))
              refine ih U y _ _ K ?_ hU hK hrK k3
              have he2 : rd1 (rd I 151) (lnO (rd I 151)) (lnn (rd I 151)) 0 false V = (b, U) := he
              unfold rns at g2
              rw [he2] at g2 hff
              cases b with
              | true =>
                right
                refine ⟨hy, by rw [g2, if_pos rfl], ?_⟩
                rw [if_pos ⟨rfl, rfl⟩] at hff
                have : frN U (rd I 151 3).toNat + 1 ≤ frN V (rd I 151 3).toNat := hff
                omega
              | false => left; exact ⟨hy, by rw [g2, if_neg Bool.false_ne_true]⟩
            | succ m ihm =>
              intro k k0 k1 U y b w5 K hy hU hK hrK k3 he
              have e151 : rd K 151 = rd I 151 := hK.r (by unfold scr; omega)
              have hMK : RM K := fun q q0 q1 => by rw [hK.r (by unfold scr; omega)]; exact hMo q q0 q1
              have eo := k3 k k0 (by omega)
              have hob := hO1 k k0 (by omega)
              have nxt : ∀ (A : mj_I) (y2 : Int), fr (fun a => a = 155 ∨ a = 162 ∨ a = 163) K A → (∀ q, 0 ≤ q → q < 6 → rd A 155 q = (tk1 (rd I 151) (lnO (rd I 151) k) (rd I 151 3).toNat 0 U).2 q) → y2 = (if ((tk1 (rd I 151) (lnO (rd I 151) k) (rd I 151 3).toNat 0 U).1 || b) = true then 1 else 0) → ∀ w5, xW 400 275 25 [some (.inr (13, 0, 150, 0)), some (.inl v), some (.inl (lnn (rd I 151) : Int)), some (.inl y2), some (.inl (k + 1)), w5] [] A S Q := by
                intro A y2 hA hrA hy2 w5
                exact ihm (k + 1) (by omega) (by omega) _ y2 _ _ A hy2 (tk1_b hob _ _ _ hU) (hK.tr (hA.mo (fun a q => by unfold scr; omega))) hrA (fun q q0 q1 => by rw [hA.r (by omega)]; exact k3 q q0 q1) he
              refine x_hd false [19, 25] 40 ?_
              (repeat' (first | rw [eo] | refine m_takes hS (by rw [e151]; exact hN) hMK _ (by rw [e151]; exact hob) ?_ (by rw [e151]; exact hU) hrK (fun A hA hrA => ?_) | with_reducible assumption | with_reducible exact rfl | with_reducible exact trivial | (with_reducible (show (_ : Int) ≤ _); omega) | (with_reducible (show (_ : Int) < _); omega) | (with_reducible (show (_ : Nat) < _); omega) | (with_reducible (show (_ : Nat) ≤ _); omega) | with_reducible exact Or.inl rfl | with_reducible exact Or.inr rfl | with_reducible exact Or.inl trivial | with_reducible exact Or.inr trivial | (intro hz; exact absurd hz (by decide)) | (intro hz; exfalso; omega) | refine And.intro ?_ ?_ | intro _))
              · rename_i z
                rw [e151] at hrA z
                refine nxt A 1 hA hrA ?_ _
                cases e : (tk1 (rd I 151) (lnO (rd I 151) k) (rd I 151 3).toNat 0 U).1 with
                | true => rfl
                | false => rw [e] at z; exact absurd rfl z
              · rename_i z y0
                rw [e151] at hrA z
                refine nxt A 0 hA hrA ?_ _
                cases e : (tk1 (rd I 151) (lnO (rd I 151) k) (rd I 151 3).toNat 0 U).1 with
                | true => rw [e] at z; exact absurd z (by decide)
                | false =>
                  cases b with
                  | true => rw [y0] at hy; exact absurd hy (by decide)
                  | false => rfl
              · rename_i z y0
                rw [e151] at hrA z
                refine nxt A 1 hA hrA ?_ _
                cases b with
                | true => rw [Bool.or_true]; rfl
                | false => exact absurd hy y0
          refine x_hd false [19, 25] 30 ?_
          (repeat' (first | with_reducible assumption | with_reducible exact rfl | with_reducible exact trivial | (with_reducible (show (_ : Int) ≤ _); omega) | (with_reducible (show (_ : Int) < _); omega) | (with_reducible (show (_ : Nat) < _); omega) | (with_reducible (show (_ : Nat) ≤ _); omega) | with_reducible exact Or.inl rfl | with_reducible exact Or.inr rfl | with_reducible exact Or.inl trivial | with_reducible exact Or.inr trivial | (intro hz; exact absurd hz (by decide)) | (intro hz; exfalso; omega) | refine And.intro ?_ ?_ | intro _))
          exact inner (lnn (rd I 151)) 0 (by omega) (by omega) V 0 false _ J rfl hV hJ hr j3 rfl
    refine x_C false [.inr (13, 0, 150, 0), .inl v] [19] 60 hS ⟨xok_m hS, trivial, trivial⟩ ?_
    (repeat' (first | refine c_in _ _ _ ?_ ?_ | refine m_signedOnes hS hN ?_ (fun J hJ hr => ?_) | refine m_linesUp hS (by rw [hJ.r (by omega)]; exact hN) ?_ (fun K hK k3 => ?_) | with_reducible assumption | with_reducible exact rfl | with_reducible exact trivial | (with_reducible (show (_ : Int) ≤ _); omega) | (with_reducible (show (_ : Int) < _); omega) | (with_reducible (show (_ : Nat) < _); omega) | (with_reducible (show (_ : Nat) ≤ _); omega) | with_reducible exact Or.inl rfl | with_reducible exact Or.inr rfl | with_reducible exact Or.inl trivial | with_reducible exact Or.inr trivial | (intro hz; exact absurd hz (by decide)) | (intro hz; exfalso; omega) | refine And.intro ?_ ?_ | intro _))
    · rename_i z _
      have j151 : rd J 151 = rd I 151 := hJ.r (by omega)
      have fb := frN_b (sgn (rd I 151)) (rd I 151 3).toNat
      rw [j151] at k3 ⊢
      exact loop z 7 (sgn (rd I 151)) 1 _ _ K (Or.inr ⟨rfl, rfl, by omega⟩) (sgn_b hN) ((hJ.mo (fun a q => by unfold scr; omega)).tr (hK.mo (fun a q => by unfold scr; omega))) (fun q q0 q1 => by rw [hK.r (by omega)]; exact hr q q0 q1) k3
    · rename_i z _
      refine Qe (h I fr.refl) ?_
      unfold quS
      rw [if_pos z]
