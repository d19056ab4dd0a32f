/-! queue -/
def lnO (N : Int → Int) : Int → Int := (lnN N (N 2).toNat).2.1
def lnn (N : Int → Int) : Nat := (lnN N (N 2).toNat).1
def quW (N : Int → Int) : Int → Int := rns N (lnO N) (lnn N) 7 (sgn N)
def cnN (W : Int → Int) : Nat → Int
  | 0 => 0
  | s + 1 => cnN W s + (if 0 ≤ W s then 1 else 0)
theorem cnN_b (W : Int → Int) : ∀ n, 0 ≤ cnN W n ∧ cnN W n ≤ n
  | 0 => ⟨Int.le_refl 0, Int.le_refl 0⟩
  | n + 1 => by
    have := cnN_b W n
    unfold cnN
    split <;> omega
def quS (N : Int → Int) (v : Int) : Int := if ¬ (-1 ≤ v ∧ v ≤ N 3 - 1) then -1000000001 else if v < 0 then cnN (quW N) (N 3).toNat else if quW N v < 0 then -1000000005 else quW N v
theorem ln_b {N : Int → Int} (h : 0 ≤ N 2) : (lnn N : Int) ≤ N 2 ∧ ∀ q : Int, 0 ≤ q → q < 0 + (lnn N : Int) → 0 ≤ lnO N q ∧ lnO N q < N 2 := by
  have a := lnN_b (N := N) (N 2).toNat
  refine ⟨by unfold lnn; omega, fun q q0 q1 => ?_⟩
  have := a.2 q q0 (by unfold lnn at q1; omega)
  unfold lnO
  omega
/-- 159 turnUp -/
theorem c_turnUp {d : Nat} {I : mj_I} {S : mj_S} {Q : mj_Q} (hS : mk_Sh S) {N : Int → Int} (hN : Inv N) (hC : Cb I S 21 N) (hd : 4 < d)
    (h : ∀ J, fr (fun a => (33 ≤ a ∧ a ≤ 35) ∨ (112 ≤ a ∧ a ≤ 114)) I J → (∀ q, 0 ≤ q → q < 6 → rd J 35 q = quW N q) → Q (some (.inr 35)) J S) : mj_C d 159 [.inr 112, .inr 21] I S Q := by
  have hH := hN.1
  have hCH := hC.1
  have hb : mB 21 := Or.inl rfl
  unfold InvH at hH
  unfold CbH at hCH
  obtain ⟨hn1, hO1⟩ := ln_b (N := N) (by omega)
  generalize hT : quW N = T at h
  have loop : ∀ (f : Nat), f ≤ 7 → ∀ (V : Int → Int) (g ro : Int) (w : Option xV) (J : mj_I), ro = 7 - f → (g = 0 ∧ T = V ∨ g = 1 ∧ T = rns N (lnO N) (lnn N) f V) → (∀ q, -1 ≤ V q ∧ V q < N 2) → fr (fun a => (33 ≤ a ∧ a ≤ 35) ∨ (112 ≤ a ∧ a ≤ 114)) I J → (∀ q, 0 ≤ q → q < 6 → rd J 35 q = V q) → J 112 2 = (lnn N : Int) → (∀ q : Int, 0 ≤ q → q < lnn N → rd J 113 q = lnO N q) → xW d 159 10 [some (.inr (8, 0, 112, 0)), some (.inr (2, 21, 21, 0)), some (.inr (21, 0, 35, 6)), some (.inl g), some (.inl ro), w] [] J S Q := by
    intro f
    induction f with
    | zero =>
      intro _ V g ro w J g1 g2 hV hJ hr j2 j3
      have eT : T = V := by
        rcases g2 with ⟨_, g2⟩ | ⟨_, g2⟩
        · exact g2
        · exact g2
      refine x_hd false [10] 30 ?_
      (repeat' (first | with_reducible assumption | with_reducible exact rfl | with_reducible exact trivial | (with_reducible (show (_ : Int) ≤ _); omega) | (with_reducible (show (_ : Int) < _); omega) | (with_reducible (show (_ : Nat) < _); omega) | (with_reducible (show (_ : Nat) ≤ _); omega) | with_reducible exact Or.inl rfl | with_reducible exact Or.inr rfl | with_reducible exact Or.inl trivial | with_reducible exact Or.inr trivial | (intro hz; exact absurd hz (by decide)) | (intro hz; exfalso; omega) | refine And.intro ?_ ?_ | intro _))
      exact h J hJ (fun q q0 q1 => by rw [eT]; exact hr q q0 q1)
    | succ f ih =>
      intro hf V g ro w J g1 g2 hV hJ hr j2 j3
      rcases g2 with ⟨g0, g2⟩ | ⟨g0, g2⟩
      · subst g0
        refine x_hd false [10] 30 ?_
        (repeat' (first | with_reducible assumption | with_reducible exact rfl | with_reducible exact trivial | (with_reducible (show (_ : Int) ≤ _); omega) | (with_reducible (show (_ : Int) < _); omega) | (with_reducible (show (_ : Nat) < _); omega) | (with_reducible (show (_ : Nat) ≤ _); omega) | with_reducible exact Or.inl rfl | with_reducible exact Or.inr rfl | with_reducible exact Or.inl trivial | with_reducible exact Or.inr trivial | (intro hz; exact absurd hz (by decide)) | (intro hz; exfalso; omega) | refine And.intro ?_ ?_ | intro _))
        exact h J hJ (fun q q0 q1 => by rw [g2]; exact hr q q0 q1)
      · subst g0
        have inner : ∀ (m : Nat) (k : Int), 0 ≤ k → k + m = lnn N → ∀ (U : Int → Int) (y : Int) (b : Bool) (K : mj_I), y = (if b = true then 1 else 0) → (∀ q, -1 ≤ U q ∧ U q < N 2) → fr (fun a => (33 ≤ a ∧ a ≤ 35) ∨ (112 ≤ a ∧ a ≤ 114)) I K → (∀ q, 0 ≤ q → q < 6 → rd K 35 q = U q) → K 112 2 = (lnn N : Int) → (∀ q : Int, 0 ≤ q → q < lnn N → rd K 113 q = lnO N q) → rd1 N (lnO N) (lnn N) 0 false V = rd1 N (lnO N) m k b U → xW d 159 19 [some (.inr (8, 0, 112, 0)), some (.inr (2, 21, 21, 0)), some (.inr (21, 0, 35, 6)), some (.inl y), some (.inl ro), some (.inl k)] [] K S Q := by
          intro m
          induction m with
          | zero =>
            intro k k0 k1 U y b K hy hU hK hrK k2 k3 he
            refine x_hd false [10, 19] 30 ?_
            (repeat' (first | rw [k2] | with_reducible assumption | with_reducible exact rfl | with_reducible exact trivial | (with_reducible (show (_ : Int) ≤ _); omega) | (with_reducible (show (_ : Int) < _); omega) | (with_reducible (show (_ : Nat) < _); omega) | (with_reducible (show (_ : Nat) ≤ _); omega) | with_reducible exact Or.inl rfl | with_reducible exact Or.inr rfl | with_reducible exact Or.inl trivial | with_reducible exact Or.inr trivial | (intro hz; exact absurd hz (by decide)) | (intro hz; exfalso; omega) | refine And.intro ?_ ?_ | intro _))
            refine ih (by omega) U y _ _ K (by omega) ?_ hU hK hrK k2 k3
            have he2 : rd1 N (lnO N) (lnn N) 0 false V = (b, U) := he
            unfold rns at g2
            rw [he2] at g2
            cases b with
            | true => right; exact ⟨hy, by rw [g2, if_pos rfl]⟩
            | false => left; exact ⟨hy, by rw [g2, if_neg (by decide)]⟩
          | succ m ihm =>
            intro k k0 k1 U y b K hy hU hK hrK k2 k3 he
            have hCK := hC.fr hN.1 hK (fun a q => by unfold bc at q; omega)
            have eo := k3 k k0 (by omega)
            have hob := hO1 k k0 (by omega)
            refine x_hd false [10, 19] 40 ?_
            (repeat' (first | rw [k2] | rw [eo] | refine c_takeOne hS hN hCK _ ?_ ?_ hU hrK (fun A hA hrA => ?_) | with_reducible assumption | with_reducible exact rfl | with_reducible exact trivial | (with_reducible (show (_ : Int) ≤ _); omega) | (with_reducible (show (_ : Int) < _); omega) | (with_reducible (show (_ : Nat) < _); omega) | (with_reducible (show (_ : Nat) ≤ _); omega) | with_reducible exact Or.inl rfl | with_reducible exact Or.inr rfl | with_reducible exact Or.inl trivial | with_reducible exact Or.inr trivial | (intro hz; exact absurd hz (by decide)) | (intro hz; exfalso; omega) | refine And.intro ?_ ?_ | intro _))
            all_goals skip
        refine x_hd false [10, 19] 30 ?_
        (repeat' (first | with_reducible assumption | with_reducible exact rfl | with_reducible exact trivial | (with_reducible (show (_ : Int) ≤ _); omega) | (with_reducible (show (_ : Int) < _); omega) | (with_reducible (show (_ : Nat) < _); omega) | (with_reducible (show (_ : Nat) ≤ _); omega) | with_reducible exact Or.inl rfl | with_reducible exact Or.inr rfl | with_reducible exact Or.inl trivial | with_reducible exact Or.inr trivial | (intro hz; exact absurd hz (by decide)) | (intro hz; exfalso; omega) | refine And.intro ?_ ?_ | intro _))
        all_goals skip
  refine x_C false [.inr (8, 0, 112, 0), .inr (2, 21, 21, 0)] [10] 30 hS ⟨xok_tu hS, xok_b hS hb, trivial⟩ ?_
  (repeat' (first | refine c_lineUp hS hN hC ?_ (fun J hJ j2 j3 => ?_) | refine c_signers hS hb hN (hC.fr hN.1 hJ (fun a q => by unfold bc at q; omega)) ?_ (fun K hK hrK => ?_) | refine ⟨(21, 0, 21 + 14, 6), ⟨rfl, ok_do hS hb⟩, ?_⟩ | with_reducible assumption | with_reducible exact rfl | with_reducible exact trivial | (with_reducible (show (_ : Int) ≤ _); omega) | (with_reducible (show (_ : Int) < _); omega) | (with_reducible (show (_ : Nat) < _); omega) | (with_reducible (show (_ : Nat) ≤ _); omega) | with_reducible exact Or.inl rfl | with_reducible exact Or.inr rfl | with_reducible exact Or.inl trivial | with_reducible exact Or.inr trivial | (intro hz; exact absurd hz (by decide)) | (intro hz; exfalso; omega) | refine And.intro ?_ ?_ | intro _))
  all_goals skip
