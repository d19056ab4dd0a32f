/-! calls that only read: count, audit, stepTold -/
def csN (N : Int → Int) : Nat → Int
  | 0 => 0
  | s + 1 => csN N s + (if 0 ≤ N (64 + 4 * (s : Int) + 3) then 1 else 0)
def csS (N : Int → Int) : Int := csN N (N 3).toNat
theorem csN_b (N : Int → Int) : ∀ k : Nat, 0 ≤ csN N k ∧ csN N k ≤ k
  | 0 => ⟨Int.le_refl 0, Int.le_refl 0⟩
  | k + 1 => by
    have ih := csN_b N k
    unfold csN
    split <;> omega
def caN (N : Int → Int) : Nat → Int
  | 0 => 0
  | p + 1 => caN N p + (if awy N p (N 1) then 1 else 0)
def caS (N : Int → Int) : Int := caN N (N 2).toNat
theorem caN_b (N : Int → Int) : ∀ k : Nat, 0 ≤ caN N k ∧ caN N k ≤ k
  | 0 => ⟨Int.le_refl 0, Int.le_refl 0⟩
  | k + 1 => by
    have ih := caN_b N k
    unfold caN
    split <;> omega
theorem c_countSigned {d : Nat} {I : mj_I} {S : mj_S} {Q : mj_Q} (hS : mk_Sh S) {b : Nat} (hb : mB b) {N : Int → Int} (hN : Inv N) (hC : Cb I S b N) (hd : 0 < d) (h : Q (some (.inl (csS N))) I S) : mj_C d 155 [.inr b] I S Q := by
  have hH := hN.1
  have hCH := hC.1
  unfold InvH at hH
  unfold CbH at hCH
  have loop : ∀ m k : Nat, (k + m : Int) = N 3 → ∀ (a kk : Int), kk = k → a = csN N k → xW d 155 4 [some (.inr (2, b, b, 0)), some (.inl a), some (.inl kk)] [] I S Q := by
    intro m
    induction m with
    | zero =>
      intro k hk a kk h1 h2
      refine x_hd false [4] 30 ?_
      (repeat' (first | with_reducible assumption | with_reducible exact rfl | with_reducible exact trivial | (with_reducible (show (_ : Int) ≤ _); omega) | (with_reducible (show (_ : Int) < _); omega) | (with_reducible (show (_ : Nat) < _); omega) | (with_reducible (show (_ : Nat) ≤ _); omega) | with_reducible exact Or.inl rfl | with_reducible exact Or.inr rfl | with_reducible exact Or.inl trivial | with_reducible exact Or.inr trivial | (intro hz; exact absurd hz (by decide)) | (intro hz; exfalso; omega) | refine And.intro ?_ ?_ | intro _))
      refine Qe h ?_
      rw [h2]
      unfold csS
      rw [show (N 3).toNat = k by omega]
    | succ m ih =>
      intro k hk a kk h1 h2
      subst h1
      have hCS := hC.2.2.1 k (by omega) (by omega)
      unfold CbS at hCS
      have hcb := csN_b N k
      have e3 : I (b + 22 + (k : Int).toNat) 3 = N (64 + 4 * (k : Int) + 3) := hCS.2.2.2
      refine x_hd false [4] 30 ?_
      (repeat' (first | refine c_oneIf _ ?_ ?_ | with_reducible assumption | with_reducible exact rfl | with_reducible exact trivial | (with_reducible (show (_ : Int) ≤ _); omega) | (with_reducible (show (_ : Int) < _); omega) | (with_reducible (show (_ : Nat) < _); omega) | (with_reducible (show (_ : Nat) ≤ _); omega) | with_reducible exact Or.inl rfl | with_reducible exact Or.inr rfl | with_reducible exact Or.inl trivial | with_reducible exact Or.inr trivial | (intro hz; exact absurd hz (by decide)) | (intro hz; exfalso; omega) | refine And.intro ?_ ?_ | intro _))
      all_goals (refine ih (k + 1) (by omega) _ _ (by omega) ?_; unfold csN; first | (rw [if_pos (by omega)]; omega) | (rw [if_neg (by omega)]; omega))
  refine x_C false [.inr (2, b, b, 0)] [4] 30 hS ⟨xok_b hS hb, trivial⟩ ?_
  (repeat' (first | with_reducible assumption | with_reducible exact rfl | with_reducible exact trivial | (with_reducible (show (_ : Int) ≤ _); omega) | (with_reducible (show (_ : Int) < _); omega) | (with_reducible (show (_ : Nat) < _); omega) | (with_reducible (show (_ : Nat) ≤ _); omega) | with_reducible exact Or.inl rfl | with_reducible exact Or.inr rfl | with_reducible exact Or.inl trivial | with_reducible exact Or.inr trivial | (intro hz; exact absurd hz (by decide)) | (intro hz; exfalso; omega) | refine And.intro ?_ ?_ | intro _))
  exact loop (N 3).toNat 0 (by omega) _ _ rfl rfl
theorem m_signedMany {d : Nat} {I : mj_I} {S : mj_S} {Q : mj_Q} (hS : mk_Sh S) (hN : Inv (rd I 151)) (hd : 0 < d) (h : Q (some (.inl (csS (rd I 151)))) I S) : mj_C d 272 [.inr 150] I S Q := by
  have hH := hN.1
  unfold InvH at hH
  have loop : ∀ m k : Nat, (k + m : Int) = rd I 151 3 → ∀ (a kk : Int), kk = k → a = csN (rd I 151) k → xW d 272 4 [some (.inr (13, 0, 150, 0)), some (.inl a), some (.inl kk)] [] I S Q := by
    intro m
    induction m with
    | zero =>
      intro k hk a kk h1 h2
      refine x_hd false [4] 30 ?_
      (repeat' (first | with_reducible assumption | with_reducible exact rfl | with_reducible exact trivial | (with_reducible (show (_ : Int) ≤ _); omega) | (with_reducible (show (_ : Int) < _); omega) | (with_reducible (show (_ : Nat) < _); omega) | (with_reducible (show (_ : Nat) ≤ _); omega) | with_reducible exact Or.inl rfl | with_reducible exact Or.inr rfl | with_reducible exact Or.inl trivial | with_reducible exact Or.inr trivial | (intro hz; exact absurd hz (by decide)) | (intro hz; exfalso; omega) | refine And.intro ?_ ?_ | intro _))
      refine Qe h ?_
      rw [h2]
      unfold csS
      rw [show (rd I 151 3).toNat = k by omega]
    | succ m ih =>
      intro k hk a kk h1 h2
      subst h1
      have hcb := csN_b (rd I 151) k
      refine x_hd false [4] 30 ?_
      (repeat' (first | refine m_of4 hS _ _ ?_ ?_ ?_ | with_reducible assumption | with_reducible exact rfl | with_reducible exact trivial | (with_reducible (show (_ : Int) ≤ _); omega) | (with_reducible (show (_ : Int) < _); omega) | (with_reducible (show (_ : Nat) < _); omega) | (with_reducible (show (_ : Nat) ≤ _); omega) | with_reducible exact Or.inl rfl | with_reducible exact Or.inr rfl | with_reducible exact Or.inl trivial | with_reducible exact Or.inr trivial | (intro hz; exact absurd hz (by decide)) | (intro hz; exfalso; omega) | refine And.intro ?_ ?_ | intro _))
      all_goals (refine ih (k + 1) (by omega) _ _ (by omega) ?_; unfold csN; first | (rw [if_pos (by omega)]; omega) | (rw [if_neg (by omega)]; omega))
  refine x_C false [.inr (13, 0, 150, 0)] [4] 30 hS ⟨xok_m hS, trivial⟩ ?_
  (repeat' (first | with_reducible assumption | with_reducible exact rfl | with_reducible exact trivial | (with_reducible (show (_ : Int) ≤ _); omega) | (with_reducible (show (_ : Int) < _); omega) | (with_reducible (show (_ : Nat) < _); omega) | (with_reducible (show (_ : Nat) ≤ _); omega) | with_reducible exact Or.inl rfl | with_reducible exact Or.inr rfl | with_reducible exact Or.inl trivial | with_reducible exact Or.inr trivial | (intro hz; exact absurd hz (by decide)) | (intro hz; exfalso; omega) | refine And.intro ?_ ?_ | intro _))
  exact loop (rd I 151 3).toNat 0 (by omega) _ _ rfl rfl
theorem c_countAway {d : Nat} {I : mj_I} {S : mj_S} {Q : mj_Q} (hS : mk_Sh S) {b : Nat} (hb : mB b) {N : Int → Int} (hN : Inv N) (hC : Cb I S b N) (hd : 0 < d) (h : Q (some (.inl (caS N))) I S) : mj_C d 193 [.inr b] I S Q := by
  have hH := hN.1
  have hCH := hC.1
  unfold InvH at hH
  unfold CbH at hCH
  have loop : ∀ m k : Nat, (k + m : Int) = N 2 → ∀ (a kk : Int), kk = k → a = caN N k → xW d 193 4 [some (.inr (2, b, b, 0)), some (.inl a), some (.inl kk)] [] I S Q := by
    intro m
    induction m with
    | zero =>
      intro k hk a kk h1 h2
      refine x_hd false [4] 30 ?_
      (repeat' (first | with_reducible assumption | with_reducible exact rfl | with_reducible exact trivial | (with_reducible (show (_ : Int) ≤ _); omega) | (with_reducible (show (_ : Int) < _); omega) | (with_reducible (show (_ : Nat) < _); omega) | (with_reducible (show (_ : Nat) ≤ _); omega) | with_reducible exact Or.inl rfl | with_reducible exact Or.inr rfl | with_reducible exact Or.inl trivial | with_reducible exact Or.inr trivial | (intro hz; exact absurd hz (by decide)) | (intro hz; exfalso; omega) | refine And.intro ?_ ?_ | intro _))
      refine Qe h ?_
      rw [h2]
      unfold caS
      rw [show (N 2).toNat = k by omega]
    | succ m ih =>
      intro k hk a kk h1 h2
      subst h1
      have hCP := hC.2.1 k (by omega) (by omega)
      unfold CbP at hCP
      have hcb := caN_b N k
      refine x_hd false [4] 30 ?_
      (repeat' (first | exact tg_P hS hb (by omega) (by omega) | refine c_isAway _ _ ?_ ?_ ?_ | refine c_oneIf _ ?_ ?_ | with_reducible assumption | with_reducible exact rfl | with_reducible exact trivial | (with_reducible (show (_ : Int) ≤ _); omega) | (with_reducible (show (_ : Int) < _); omega) | (with_reducible (show (_ : Nat) < _); omega) | (with_reducible (show (_ : Nat) ≤ _); omega) | with_reducible exact Or.inl rfl | with_reducible exact Or.inr rfl | with_reducible exact Or.inl trivial | with_reducible exact Or.inr trivial | (intro hz; exact absurd hz (by decide)) | (intro hz; exfalso; omega) | refine And.intro ?_ ?_ | intro _))
      all_goals (refine ih (k + 1) (by omega) _ _ (by omega) ?_; unfold caN; first | (rw [if_pos (by omega)]; omega) | (rw [if_neg (by omega)]; omega))
  refine x_C false [.inr (2, b, b, 0)] [4] 30 hS ⟨xok_b hS hb, trivial⟩ ?_
  (repeat' (first | with_reducible assumption | with_reducible exact rfl | with_reducible exact trivial | (with_reducible (show (_ : Int) ≤ _); omega) | (with_reducible (show (_ : Int) < _); omega) | (with_reducible (show (_ : Nat) < _); omega) | (with_reducible (show (_ : Nat) ≤ _); omega) | with_reducible exact Or.inl rfl | with_reducible exact Or.inr rfl | with_reducible exact Or.inl trivial | with_reducible exact Or.inr trivial | (intro hz; exact absurd hz (by decide)) | (intro hz; exfalso; omega) | refine And.intro ?_ ?_ | intro _))
  exact loop (N 2).toNat 0 (by omega) _ _ rfl rfl
theorem m_awayMany {d : Nat} {I : mj_I} {S : mj_S} {Q : mj_Q} (hS : mk_Sh S) (hN : Inv (rd I 151)) (hd : 1 < d) (h : Q (some (.inl (caS (rd I 151)))) I S) : mj_C d 298 [.inr 150] I S Q := by
  have hH := hN.1
  unfold InvH at hH
  have loop : ∀ m k : Nat, (k + m : Int) = rd I 151 2 → ∀ (a kk : Int), kk = k → a = caN (rd I 151) k → xW d 298 4 [some (.inr (13, 0, 150, 0)), some (.inl a), some (.inl kk)] [] I S Q := by
    intro m
    induction m with
    | zero =>
      intro k hk a kk h1 h2
      refine x_hd false [4] 30 ?_
      (repeat' (first | with_reducible assumption | with_reducible exact rfl | with_reducible exact trivial | (with_reducible (show (_ : Int) ≤ _); omega) | (with_reducible (show (_ : Int) < _); omega) | (with_reducible (show (_ : Nat) < _); omega) | (with_reducible (show (_ : Nat) ≤ _); omega) | with_reducible exact Or.inl rfl | with_reducible exact Or.inr rfl | with_reducible exact Or.inl trivial | with_reducible exact Or.inr trivial | (intro hz; exact absurd hz (by decide)) | (intro hz; exfalso; omega) | refine And.intro ?_ ?_ | intro _))
      refine Qe h ?_
      rw [h2]
      unfold caS
      rw [show (rd I 151 2).toNat = k by omega]
    | succ m ih =>
      intro k hk a kk h1 h2
      subst h1
      have hcb := caN_b (rd I 151) k
      refine x_hd false [4] 30 ?_
      (repeat' (first | refine m_isAway hS _ _ ?_ ?_ ?_ ?_ | with_reducible assumption | with_reducible exact rfl | with_reducible exact trivial | (with_reducible (show (_ : Int) ≤ _); omega) | (with_reducible (show (_ : Int) < _); omega) | (with_reducible (show (_ : Nat) < _); omega) | (with_reducible (show (_ : Nat) ≤ _); omega) | with_reducible exact Or.inl rfl | with_reducible exact Or.inr rfl | with_reducible exact Or.inl trivial | with_reducible exact Or.inr trivial | (intro hz; exact absurd hz (by decide)) | (intro hz; exfalso; omega) | refine And.intro ?_ ?_ | intro _))
      all_goals (refine ih (k + 1) (by omega) _ _ (by omega) ?_; unfold caN; first | (rw [if_pos (by omega)]; omega) | (rw [if_neg (by omega)]; omega))
  refine x_C false [.inr (13, 0, 150, 0)] [4] 30 hS ⟨xok_m hS, trivial⟩ ?_
  (repeat' (first | with_reducible assumption | with_reducible exact rfl | with_reducible exact trivial | (with_reducible (show (_ : Int) ≤ _); omega) | (with_reducible (show (_ : Int) < _); omega) | (with_reducible (show (_ : Nat) < _); omega) | (with_reducible (show (_ : Nat) ≤ _); omega) | with_reducible exact Or.inl rfl | with_reducible exact Or.inr rfl | with_reducible exact Or.inl trivial | with_reducible exact Or.inr trivial | (intro hz; exact absurd hz (by decide)) | (intro hz; exfalso; omega) | refine And.intro ?_ ?_ | intro _))
  exact loop (rd I 151 2).toNat 0 (by omega) _ _ rfl rfl
def cntS (N : Int → Int) (I : mj_I) (w : Int) : Int := if w = 0 then N 2 else if w = 1 then N 3 else if w = 2 then N 4 else if w = 3 then csS N else if w = 4 then N 5 else if w = 5 then N 6 else if w = 6 then N 7 else if w = 7 then caS N else if w = 8 then I 150 47 else if w = 9 then I 150 8 else if w = 10 then N 1 else if w = 11 then N 0 else -1000000001
theorem P_count {L : Nat} {xs : Nat → Int32} {n : Nat} (w : Int) : Pair L xs n 192 297 [.inl w] := by
  refine pair_ro (fun N I => cntS N I w) (fun I J h => by show cntS _ _ w = cntS _ _ w; unfold cntS; rw [h 150 (by unfold scr; omega)]) (fun I S Q hR h => ?_) (fun I S Q hR h => ?_)
  · obtain ⟨hS, hO, ⟨hN, hCb⟩, hI, hTp, hWt, hSh, hSl, hMo, hCa, hBd⟩ := hR
    have hH := hN.1
    have hCH := hCb.1
    have hb : mB 21 := Or.inl rfl
    unfold InvH at hH
    unfold CbH at hCH
    unfold RT at hTp
    unfold RW at hWt
    refine x_C false [.inr (1, 0, 20, 0), .inl w] [] 40 hS ⟨xok_w hS, trivial, trivial⟩ ?_
    (repeat' (first | refine c_countSigned hS hb hN hCb ?_ ?_ | refine c_countAway hS hb hN hCb ?_ ?_ | with_reducible assumption | with_reducible exact rfl | with_reducible exact trivial | (with_reducible (show (_ : Int) ≤ _); omega) | (with_reducible (show (_ : Int) < _); omega) | (with_reducible (show (_ : Nat) < _); omega) | (with_reducible (show (_ : Nat) ≤ _); omega) | with_reducible exact Or.inl rfl | with_reducible exact Or.inr rfl | with_reducible exact Or.inl trivial | with_reducible exact Or.inr trivial | (intro hz; exact absurd hz (by decide)) | (intro hz; exfalso; omega) | refine And.intro ?_ ?_ | intro _))
    all_goals (refine Qe (h _ fr.refl) ?_; unfold cntS; omega)
  · obtain ⟨hS, hO, ⟨hN, hCb⟩, hI, hTp, hWt, hSh, hSl, hMo, hCa, hBd⟩ := hR
    have hH := hN.1
    have hCH := hCb.1
    have hb : mB 21 := Or.inl rfl
    unfold InvH at hH
    unfold CbH at hCH
    refine x_C false [.inr (13, 0, 150, 0), .inl w] [] 40 hS ⟨xok_m hS, trivial, trivial⟩ ?_
    (repeat' (first | refine m_signedMany hS hN ?_ ?_ | refine m_awayMany hS hN ?_ ?_ | with_reducible assumption | with_reducible exact rfl | with_reducible exact trivial | (with_reducible (show (_ : Int) ≤ _); omega) | (with_reducible (show (_ : Int) < _); omega) | (with_reducible (show (_ : Nat) < _); omega) | (with_reducible (show (_ : Nat) ≤ _); omega) | with_reducible exact Or.inl rfl | with_reducible exact Or.inr rfl | with_reducible exact Or.inl trivial | with_reducible exact Or.inr trivial | (intro hz; exact absurd hz (by decide)) | (intro hz; exfalso; omega) | refine And.intro ?_ ?_ | intro _))
    all_goals (refine Qe (h _ fr.refl) ?_; unfold cntS; omega)
