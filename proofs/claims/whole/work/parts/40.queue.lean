/-! queue: the pure side; takes -/
def tk1 (N : Int → Int) (p : Int) : Nat → Int → (Int → Int) → Bool × (Int → Int)
  | 0, _, W => (false, W)
  | m + 1, s, W => if 0 ≤ W s ∨ mayS N z0 p s (N 1) = false then tk1 N p m (s + 1) W else if brkS N (ru W s p) < 0 then (true, ru W s p) else tk1 N p m (s + 1) (ru (ru W s p) s (-1))
def rd1 (N O : Int → Int) : Nat → Int → Bool → (Int → Int) → Bool × (Int → Int)
  | 0, _, g, W => (g, W)
  | m + 1, k, g, W => rd1 N O m (k + 1) ((tk1 N (O k) (N 3).toNat 0 W).1 || g) (tk1 N (O k) (N 3).toNat 0 W).2
def rns (N O : Int → Int) (n : Nat) : Nat → (Int → Int) → Int → Int
  | 0, W => W
  | f + 1, W => if (rd1 N O n 0 false W).1 = true then rns N O n f (rd1 N O n 0 false W).2 else (rd1 N O n 0 false W).2
def frN (W : Int → Int) : Nat → Int
  | 0 => 0
  | s + 1 => frN W s + (if W s < 0 then 1 else 0)
theorem frN_b (W : Int → Int) : ∀ n, 0 ≤ frN W n ∧ frN W n ≤ n
  | 0 => ⟨Int.le_refl 0, Int.le_refl 0⟩
  | n + 1 => by
    have := frN_b W n
    unfold frN
    split <;> omega
theorem frN_ru {W : Int → Int} {s p : Int} (h : W s < 0) (hs : 0 ≤ s) : ∀ n : Nat, frN (ru W s p) n = frN W n - (if s < n ∧ 0 ≤ p then 1 else 0)
  | 0 => by
    rw [if_neg (by omega)]
    rfl
  | n + 1 => by
    unfold frN
    rw [frN_ru h hs n]
    by_cases e : (n : Int) = s
    · rw [e, ru_s, if_pos h]
      by_cases e2 : 0 ≤ p
      · rw [if_neg (by omega), if_neg (by omega), if_pos (by omega)]; omega
      · rw [if_neg (by omega), if_pos (by omega), if_neg (by omega)]; omega
    · rw [ru_n e]
      have e4 : (if s < ((n + 1 : Nat) : Int) ∧ 0 ≤ p then (1 : Int) else 0) = (if s < (n : Int) ∧ 0 ≤ p then 1 else 0) := by
        by_cases e2 : s < n ∧ 0 ≤ p
        · rw [if_pos e2, if_pos (by omega)]
        · rw [if_neg e2, if_neg (by omega)]
      rw [e4]
      omega
theorem tk1_f {N : Int → Int} {p : Int} (hp : 0 ≤ p) (n : Nat) : ∀ (m : Nat) (s : Int) (W : Int → Int), 0 ≤ s → s + m ≤ n → frN (tk1 N p m s W).2 n + (if (tk1 N p m s W).1 = true then 1 else 0) ≤ frN W n
  | 0, s, W, _, _ => by
    show frN W n + (if (false : Bool) = true then 1 else 0) ≤ frN W n
    rw [if_neg (by decide)]
    omega
  | m + 1, s, W, s0, s1 => by
    by_cases e1 : 0 ≤ W s ∨ mayS N z0 p s (N 1) = false
    · have e : tk1 N p (m + 1) s W = tk1 N p m (s + 1) W := if_pos e1
      rw [e]
      exact tk1_f hp n m (s + 1) W (by omega) (by omega)
    · have hs : W s < 0 := by omega
      by_cases e2 : brkS N (ru W s p) < 0
      · have e : tk1 N p (m + 1) s W = (true, ru W s p) := by unfold tk1; rw [if_neg e1, if_pos e2]
        rw [e]
        show frN (ru W s p) n + (if (true : Bool) = true then 1 else 0) ≤ frN W n
        rw [frN_ru hs s0, if_pos (by omega), if_pos rfl]
        omega
      · have e : tk1 N p (m + 1) s W = tk1 N p m (s + 1) (ru (ru W s p) s (-1)) := by
          show (if _ then _ else if _ then _ else _) = _
          rw [if_neg e1, if_neg e2]
        rw [e]
        have := tk1_f (N := N) hp n m (s + 1) (ru (ru W s p) s (-1)) (by omega) (by omega)
        have hfr : frN (ru (ru W s p) s (-1)) n = frN W n := by
          rw [ru_ru, frN_ru hs s0, if_neg (by omega)]
          omega
        rw [hfr] at this
        exact this
theorem tk1_b {N : Int → Int} {p : Int} (hp : 0 ≤ p ∧ p < N 2) : ∀ (m : Nat) (s : Int) (W : Int → Int), (∀ q, -1 ≤ W q ∧ W q < N 2) → ∀ q, -1 ≤ (tk1 N p m s W).2 q ∧ (tk1 N p m s W).2 q < N 2
  | 0, s, W, h => h
  | m + 1, s, W, h => by
    by_cases e1 : 0 ≤ W s ∨ mayS N z0 p s (N 1) = false
    · have e : tk1 N p (m + 1) s W = tk1 N p m (s + 1) W := if_pos e1
      rw [e]
      exact tk1_b hp m (s + 1) W h
    · by_cases e2 : brkS N (ru W s p) < 0
      · have e : tk1 N p (m + 1) s W = (true, ru W s p) := by unfold tk1; rw [if_neg e1, if_pos e2]
        rw [e]
        exact ru_b h hp
      · have e : tk1 N p (m + 1) s W = tk1 N p m (s + 1) (ru (ru W s p) s (-1)) := by
          show (if _ then _ else if _ then _ else _) = _
          rw [if_neg e1, if_neg e2]
        rw [e]
        refine tk1_b hp m (s + 1) _ (fun q => ?_)
        rw [ru_ru]
        by_cases e3 : q = s
        · rw [e3, ru_s]; omega
        · rw [ru_n e3]; exact h q
theorem rd1_f {N O : Int → Int} : ∀ (m : Nat) (k : Int) (g : Bool) (W : Int → Int), 0 ≤ N 3 → (∀ q, k ≤ q → q < k + m → 0 ≤ O q) → frN (rd1 N O m k g W).2 (N 3).toNat + (if (rd1 N O m k g W).1 = true ∧ g = false then 1 else 0) ≤ frN W (N 3).toNat
  | 0, k, g, W, _, _ => by
    show frN W (N 3).toNat + (if g = true ∧ g = false then 1 else 0) ≤ _
    rw [if_neg (by intro q; rw [q.1] at q; exact absurd q.2 (by decide))]
    omega
  | m + 1, k, g, W, h3, hO => by
    have a := tk1_f (N := N) (p := O k) (hO k (by omega) (by omega)) (N 3).toNat (N 3).toNat 0 W (by omega) (by omega)
    have b := rd1_f (N := N) (O := O) m (k + 1) ((tk1 N (O k) (N 3).toNat 0 W).1 || g) (tk1 N (O k) (N 3).toNat 0 W).2 h3 (fun q q0 q1 => hO q (by omega) (by omega))
    unfold rd1
    cases ht : (tk1 N (O k) (N 3).toNat 0 W).1 with
    | false =>
      rw [ht] at a b
      rw [Bool.false_or] at b ⊢
      rw [if_neg (by decide)] at a
      omega
    | true =>
      rw [ht] at a b
      rw [Bool.true_or] at b ⊢
      rw [if_pos rfl] at a
      rw [if_neg (by intro q; exact absurd q.2 (by decide))] at b
      split <;> omega
theorem rd1_b {N O : Int → Int} : ∀ (m : Nat) (k : Int) (g : Bool) (W : Int → Int), (∀ q, k ≤ q → q < k + m → 0 ≤ O q ∧ O q < N 2) → (∀ q, -1 ≤ W q ∧ W q < N 2) → ∀ q, -1 ≤ (rd1 N O m k g W).2 q ∧ (rd1 N O m k g W).2 q < N 2
  | 0, _, _, _, _, h => h
  | m + 1, k, g, W, hO, h => by
    unfold rd1
    exact rd1_b m (k + 1) _ _ (fun q q0 q1 => hO q (by omega) (by omega)) (tk1_b (hO k (by omega) (by omega)) _ _ _ h)
/-- 162 takeOne -/
theorem c_takeOne {d : Nat} {I : mj_I} {S : mj_S} {Q : mj_Q} (hS : mk_Sh S) {N : Int → Int} (hN : Inv N) (hC : Cb I S 21 N) (p : Int) (hp : 0 ≤ p ∧ p < N 2) (hd : 3 < d) {W : Int → Int} (hWb : ∀ q, -1 ≤ W q ∧ W q < N 2) (hW : ∀ q, 0 ≤ q → q < 6 → rd I 35 q = W q)
    (h : ∀ J, fr (fun a => a = 33 ∨ a = 34 ∨ a = 35) I J → (∀ q, 0 ≤ q → q < 6 → rd J 35 q = (tk1 N p (N 3).toNat 0 W).2 q) → Q (some (.inl (if (tk1 N p (N 3).toNat 0 W).1 = true then 1 else 0))) J S) : mj_C d 162 [.inr 21, .inl p, .inr 35] I S Q := by
  have hH := hN.1
  have hCH := hC.1
  have hb : mB 21 := Or.inl rfl
  unfold InvH at hH
  unfold CbH at hCH
  generalize hT : tk1 N p (N 3).toNat 0 W = T at h
  have loop : ∀ (m : Nat) (s : Int), 0 ≤ s → s + m = N 3 → ∀ (V : Int → Int) (J : mj_I), (∀ q, -1 ≤ V q ∧ V q < N 2) → fr (fun a => a = 33 ∨ a = 34 ∨ a = 35) I J → (∀ q, 0 ≤ q → q < 6 → rd J 35 q = V q) → T = tk1 N p m s V → xW d 162 2 [some (.inr (2, 21, 21, 0)), some (.inl p), some (.inr (21, 0, 35, 6)), some (.inl s)] [] J S Q := by
    intro m
    induction m with
    | zero =>
      intro s s0 s1 V J hV hJ hr hT
      have j3 : J 21 3 = N 3 := by rw [hJ.f (by omega)]; exact hCH.2.2.2.1
      refine x_hd false [2] 30 ?_
      (repeat' (first | rw [j3] | with_reducible assumption | with_reducible exact rfl | with_reducible exact trivial | (with_reducible (show (_ : Int) ≤ _); omega) | (with_reducible (show (_ : Int) < _); omega) | (with_reducible (show (_ : Nat) < _); omega) | (with_reducible (show (_ : Nat) ≤ _); omega) | with_reducible exact Or.inl rfl | with_reducible exact Or.inr rfl | with_reducible exact Or.inl trivial | with_reducible exact Or.inr trivial | (intro hz; exact absurd hz (by decide)) | (intro hz; exfalso; omega) | refine And.intro ?_ ?_ | intro _))
      refine Qe (h J hJ (fun q q0 q1 => by rw [hT]; exact hr q q0 q1)) ?_
      rw [hT]
      rfl
    | succ m ih =>
      intro s s0 s1 V J hV hJ hr hT
      have j3 : J 21 3 = N 3 := by rw [hJ.f (by omega)]; exact hCH.2.2.2.1
      have j13 : J 21 13 = N 1 := by rw [hJ.f (by omega)]; exact hCH.2.1
      have hCJ := hC.fr hN.1 hJ (fun a q => by unfold bc at q; omega)
      have er := hr s s0 (by omega)
      have t1 : (0 ≤ V s ∨ mayS N z0 p s (N 1) = false) → tk1 N p (m + 1) s V = tk1 N p m (s + 1) V := fun q => if_pos q
      have t2 : ¬ (0 ≤ V s ∨ mayS N z0 p s (N 1) = false) → brkS N (ru V s p) < 0 → tk1 N p (m + 1) s V = (true, ru V s p) := fun q y => by unfold tk1; rw [if_neg q, if_pos y]
      have t3 : ¬ (0 ≤ V s ∨ mayS N z0 p s (N 1) = false) → ¬ brkS N (ru V s p) < 0 → tk1 N p (m + 1) s V = tk1 N p m (s + 1) (ru (ru V s p) s (-1)) := fun q y => by
        show (if _ then _ else if _ then _ else _) = _
        rw [if_neg q, if_neg y]
      refine x_hd false [2] 40 ?_
      (repeat' (first | rw [j3] | rw [j13] | rw [er] | refine c_mayDo hS hb hN hCJ _ _ _ ?_ ?_ ?_ (fun hm K hK => ?_) (fun hm K hK => ?_) | with_reducible assumption | with_reducible exact rfl | with_reducible exact trivial | (with_reducible (show (_ : Int) ≤ _); omega) | (with_reducible (show (_ : Int) < _); omega) | (with_reducible (show (_ : Nat) < _); omega) | (with_reducible (show (_ : Nat) ≤ _); omega) | with_reducible exact Or.inl rfl | with_reducible exact Or.inr rfl | with_reducible exact Or.inl trivial | with_reducible exact Or.inr trivial | (intro hz; exact absurd hz (by decide)) | (intro hz; exfalso; omega) | refine And.intro ?_ ?_ | intro _))
      · rename_i z
        exact ih (s + 1) (by omega) (by omega) V J hV hJ hr (by rw [hT, t1 (Or.inl z)])
      · rename_i z _
        have nt : ¬ (0 ≤ V s ∨ mayS N z0 p s (N 1) = false) := fun q => q.elim z (fun q => by rw [hm] at q; exact absurd q (by decide))
        have hA : fr (fun a => a = 33 ∨ a = 34 ∨ a = 35) I (up K 35 s p) := (hJ.tr (hK.mo (fun a q => by omega))).up (by omega) _ _
        have hrA : ∀ q, 0 ≤ q → q < 6 → rd (up K 35 s p) 35 q = ru V s p q := by
          intro q q0 q1
          rw [rd_up (by omega) (by omega), hK.r (by omega)]
          by_cases e : q = s
          · rw [e, ru_s, ru_s]
          · rw [ru_n e, ru_n e]; exact hr q q0 q1
        have hVb := ru_b (s := s) hV hp
        have ebk : brkS N (rd (up K 35 s p) (21 + 14)) = brkS N (ru V s p) := brkS_c hN (fun q q0 q1 => hrA q q0 (by omega))
        refine c_firstBroken hS hb hN (hC.fr hN.1 hA (fun a q => by unfold bc at q; omega)) (by omega) (fun q q0 q1 => by rw [hrA q q0 q1]; exact hVb q) ?_
        rw [ebk]
        (repeat' (first | with_reducible assumption | with_reducible exact rfl | with_reducible exact trivial | (with_reducible (show (_ : Int) ≤ _); omega) | (with_reducible (show (_ : Int) < _); omega) | (with_reducible (show (_ : Nat) < _); omega) | (with_reducible (show (_ : Nat) ≤ _); omega) | with_reducible exact Or.inl rfl | with_reducible exact Or.inr rfl | with_reducible exact Or.inl trivial | with_reducible exact Or.inr trivial | (intro hz; exact absurd hz (by decide)) | (intro hz; exfalso; omega) | refine And.intro ?_ ?_ | intro _))
        · rename_i y
          refine ih (s + 1) (by omega) (by omega) (ru (ru V s p) s (-1)) _ (fun q => ?_) (hA.up (by omega) _ _) (fun q q0 q1 => ?_) (by rw [hT, t3 nt (by omega)])
          · rw [ru_ru]
            by_cases e : q = s
            · rw [e, ru_s]; omega
            · rw [ru_n e]; exact hV q
          · rw [rd_up (by omega) (by omega)]
            by_cases e : q = s
            · rw [e, ru_s, ru_s]
            · rw [ru_n e, ru_n e]; exact hrA q q0 q1
        · rename_i y
          rw [hT, t2 nt (by omega)] at h
          exact h _ hA hrA
      · rename_i z _
        exact ih (s + 1) (by omega) (by omega) V K hV (hJ.tr (hK.mo (fun a q => by omega))) (fun q q0 q1 => by rw [hK.r (by omega)]; exact hr q q0 q1) (by rw [hT, t1 (Or.inr hm)])
  refine x_C false [.inr (2, 21, 21, 0), .inl p, .inr (21, 0, 35, 6)] [2] 30 hS ⟨xok_b hS hb, trivial, ok_do hS hb, trivial⟩ ?_
  (repeat' (first | with_reducible assumption | with_reducible exact rfl | with_reducible exact trivial | (with_reducible (show (_ : Int) ≤ _); omega) | (with_reducible (show (_ : Int) < _); omega) | (with_reducible (show (_ : Nat) < _); omega) | (with_reducible (show (_ : Nat) ≤ _); omega) | with_reducible exact Or.inl rfl | with_reducible exact Or.inr rfl | with_reducible exact Or.inl trivial | with_reducible exact Or.inr trivial | (intro hz; exact absurd hz (by decide)) | (intro hz; exfalso; omega) | refine And.intro ?_ ?_ | intro _))
  exact loop (N 3).toNat 0 (by omega) (by omega) W I hWb fr.refl hW hT.symm
/-- 277 takes -/
theorem m_takes {d : Nat} {I : mj_I} {S : mj_S} {Q : mj_Q} (hS : mk_Sh S) (hN : Inv (rd I 151)) (hM : RM I) (p : Int) (hp : 0 ≤ p ∧ p < rd I 151 2) (hd : 3 < d) {W : Int → Int} (hWb : ∀ q, -1 ≤ W q ∧ W q < rd I 151 2) (hW : ∀ q, 0 ≤ q → q < 6 → rd I 155 q = W q)
    (h : ∀ J, fr (fun a => a = 155 ∨ a = 162 ∨ a = 163) I J → (∀ q, 0 ≤ q → q < 6 → rd J 155 q = (tk1 (rd I 151) p (rd I 151 3).toNat 0 W).2 q) → Q (some (.inl (if (tk1 (rd I 151) p (rd I 151 3).toNat 0 W).1 = true then 1 else 0))) J S) : mj_C d 277 [.inr 150, .inl p] I S Q := by
  have hH := hN.1
  unfold InvH at hH
  generalize hT : tk1 (rd I 151) p (rd I 151 3).toNat 0 W = T at h
  have loop : ∀ (m : Nat) (s : Int), 0 ≤ s → s + m = rd I 151 3 → ∀ (V : Int → Int) (J : mj_I), (∀ q, -1 ≤ V q ∧ V q < rd I 151 2) → fr (fun a => a = 155 ∨ a = 162 ∨ a = 163) I J → (∀ q, 0 ≤ q → q < 6 → rd J 155 q = V q) → T = tk1 (rd I 151) p m s V → xW d 277 2 [some (.inr (13, 0, 150, 0)), some (.inl p), some (.inl s)] [] J S Q := by
    intro m
    induction m with
    | zero =>
      intro s s0 s1 V J hV hJ hr hT
      have e151 : rd J 151 = rd I 151 := hJ.r (by omega)
      refine x_hd false [2] 30 ?_
      (repeat' (first | rw [e151] | with_reducible assumption | with_reducible exact rfl | with_reducible exact trivial | (with_reducible (show (_ : Int) ≤ _); omega) | (with_reducible (show (_ : Int) < _); omega) | (with_reducible (show (_ : Nat) < _); omega) | (with_reducible (show (_ : Nat) ≤ _); omega) | with_reducible exact Or.inl rfl | with_reducible exact Or.inr rfl | with_reducible exact Or.inl trivial | with_reducible exact Or.inr trivial | (intro hz; exact absurd hz (by decide)) | (intro hz; exfalso; omega) | refine And.intro ?_ ?_ | intro _))
      refine Qe (h J hJ (fun q q0 q1 => by rw [hT]; exact hr q q0 q1)) ?_
      rw [hT]
      rfl
    | succ m ih =>
      intro s s0 s1 V J hV hJ hr hT
      have e151 : rd J 151 = rd I 151 := hJ.r (by omega)
      have hMJ : RM J := fun q q0 q1 => by rw [hJ.r (by omega)]; exact hM q q0 q1
      have er := hr s s0 (by omega)
      have t1 : (0 ≤ V s ∨ mayS (rd I 151) z0 p s (rd I 151 1) = false) → tk1 (rd I 151) p (m + 1) s V = tk1 (rd I 151) p m (s + 1) V := fun q => if_pos q
      have t2 : ¬ (0 ≤ V s ∨ mayS (rd I 151) z0 p s (rd I 151 1) = false) → brkS (rd I 151) (ru V s p) < 0 → tk1 (rd I 151) p (m + 1) s V = (true, ru V s p) := fun q y => by unfold tk1; rw [if_neg q, if_pos y]
      have t3 : ¬ (0 ≤ V s ∨ mayS (rd I 151) z0 p s (rd I 151 1) = false) → ¬ brkS (rd I 151) (ru V s p) < 0 → tk1 (rd I 151) p (m + 1) s V = tk1 (rd I 151) p m (s + 1) (ru (ru V s p) s (-1)) := fun q y => by
        show (if _ then _ else if _ then _ else _) = _
        rw [if_neg q, if_neg y]
      refine x_hd false [2] 40 ?_
      (repeat' (first | rw [e151] | rw [er] | refine m_may0 hS _ _ _ (by rw [e151]; exact hN) hMJ ?_ ?_ ?_ (fun hm K hK => ?_) (fun hm K hK => ?_) | with_reducible assumption | with_reducible exact rfl | with_reducible exact trivial | (with_reducible (show (_ : Int) ≤ _); omega) | (with_reducible (show (_ : Int) < _); omega) | (with_reducible (show (_ : Nat) < _); omega) | (with_reducible (show (_ : Nat) ≤ _); omega) | with_reducible exact Or.inl rfl | with_reducible exact Or.inr rfl | with_reducible exact Or.inl trivial | with_reducible exact Or.inr trivial | (intro hz; exact absurd hz (by decide)) | (intro hz; exfalso; omega) | refine And.intro ?_ ?_ | intro _))
      · rename_i z
        exact ih (s + 1) (by omega) (by omega) V J hV hJ hr (by rw [hT, t1 (Or.inl z)])
      · rename_i z _
        rw [e151] at hm
        have nt : ¬ (0 ≤ V s ∨ mayS (rd I 151) z0 p s (rd I 151 1) = false) := fun q => q.elim z (fun q => by rw [hm] at q; exact absurd q (by decide))
        have hA : fr (fun a => a = 155 ∨ a = 162 ∨ a = 163) I (up K 155 s p) := (hJ.tr (hK.mo (fun a q => by omega))).up (by omega) _ _
        have a151 : rd (up K 155 s p) 151 = rd I 151 := hA.r (by omega)
        have hrA : ∀ q, 0 ≤ q → q < 6 → rd (up K 155 s p) 155 q = ru V s p q := by
          intro q q0 q1
          rw [rd_up (by omega) (by omega), hK.r (by omega)]
          by_cases e : q = s
          · rw [e, ru_s, ru_s]
          · rw [ru_n e, ru_n e]; exact hr q q0 q1
        have hVb := ru_b (s := s) hV hp
        have ebk : brkS (rd (up K 155 s p) 151) (rd (up K 155 s p) 155) = brkS (rd I 151) (ru V s p) := by rw [a151]; exact brkS_c hN (fun q q0 q1 => hrA q q0 (by omega))
        refine m_allKept hS (by rw [a151]; exact hN) (by omega) (fun q q0 q1 => by rw [hrA q q0 q1, a151]; exact hVb q) (fun y => ?_) (fun y => ?_)
        · rw [ebk] at y
          (repeat' (first | with_reducible assumption | with_reducible exact rfl | with_reducible exact trivial | (with_reducible (show (_ : Int) ≤ _); omega) | (with_reducible (show (_ : Int) < _); omega) | (with_reducible (show (_ : Nat) < _); omega) | (with_reducible (show (_ : Nat) ≤ _); omega) | with_reducible exact Or.inl rfl | with_reducible exact Or.inr rfl | with_reducible exact Or.inl trivial | with_reducible exact Or.inr trivial | (intro hz; exact absurd hz (by decide)) | (intro hz; exfalso; omega) | refine And.intro ?_ ?_ | intro _))
          rw [hT, t2 nt (by omega)] at h
          exact h _ hA hrA
        · rw [ebk] at y
          (repeat' (first | with_reducible assumption | with_reducible exact rfl | with_reducible exact trivial | (with_reducible (show (_ : Int) ≤ _); omega) | (with_reducible (show (_ : Int) < _); omega) | (with_reducible (show (_ : Nat) < _); omega) | (with_reducible (show (_ : Nat) ≤ _); omega) | with_reducible exact Or.inl rfl | with_reducible exact Or.inr rfl | with_reducible exact Or.inl trivial | with_reducible exact Or.inr trivial | (intro hz; exact absurd hz (by decide)) | (intro hz; exfalso; omega) | refine And.intro ?_ ?_ | intro _))
          refine ih (s + 1) (by omega) (by omega) (ru (ru V s p) s (-1)) _ (fun q => ?_) (hA.up (by omega) _ _) (fun q q0 q1 => ?_) (by rw [hT, t3 nt (by omega)])
          · rw [ru_ru]
            by_cases e : q = s
            · rw [e, ru_s]; omega
            · rw [ru_n e]; exact hV q
          · rw [rd_up (by omega) (by omega)]
            by_cases e : q = s
            · rw [e, ru_s, ru_s]
            · rw [ru_n e, ru_n e]; exact hrA q q0 q1
      · rename_i z _
        rw [e151] at hm
        exact ih (s + 1) (by omega) (by omega) V K hV (hJ.tr (hK.mo (fun a q => by omega))) (fun q q0 q1 => by rw [hK.r (by omega)]; exact hr q q0 q1) (by rw [hT, t1 (Or.inr hm)])
  refine x_C false [.inr (13, 0, 150, 0), .inl p] [2] 30 hS ⟨xok_m hS, trivial, trivial⟩ ?_
  (repeat' (first | with_reducible assumption | with_reducible exact rfl | with_reducible exact trivial | (with_reducible (show (_ : Int) ≤ _); omega) | (with_reducible (show (_ : Int) < _); omega) | (with_reducible (show (_ : Nat) < _); omega) | (with_reducible (show (_ : Nat) ≤ _); omega) | with_reducible exact Or.inl rfl | with_reducible exact Or.inr rfl | with_reducible exact Or.inl trivial | with_reducible exact Or.inr trivial | (intro hz; exact absurd hz (by decide)) | (intro hz; exfalso; omega) | refine And.intro ?_ ?_ | intro _))
  exact loop (rd I 151 3).toNat 0 (by omega) (by omega) W I hWb fr.refl hW hT.symm
