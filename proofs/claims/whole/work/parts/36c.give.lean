/-! the class's search: isTied, give -/
theorem c_fitPlace {d : Nat} {I : mj_I} {S : mj_S} {Q : mj_Q} (hS : mk_Sh S) (a b c : Int) (ha : 0 ≤ a ∧ a ≤ 5) (hb : 0 ≤ b ∧ b ≤ 5) (hc : 0 ≤ c ∧ c ≤ 6) (h : Q (some (.inl ((a * 6 + b) * 7 + c))) I S) : mj_C d 119 [.inl a, .inl b, .inl c] I S Q := by
  refine x_C false [.inl a, .inl b, .inl c] [] 20 hS ⟨trivial, trivial, trivial, trivial⟩ ?_
  (repeat' (first | with_reducible assumption | with_reducible exact rfl | with_reducible exact trivial | (with_reducible (show (_ : Int) ≤ _); omega) | (with_reducible (show (_ : Int) < _); omega) | (with_reducible (show (_ : Nat) < _); omega) | (with_reducible (show (_ : Nat) ≤ _); omega) | with_reducible exact Or.inl rfl | with_reducible exact Or.inr rfl | with_reducible exact Or.inl trivial | with_reducible exact Or.inr trivial | (intro hz; exact absurd hz (by decide)) | (intro hz; exfalso; omega) | refine And.intro ?_ ?_ | intro _))
  exact h
/-- 126 isTied -/
theorem c_isTied {d : Nat} {I : mj_I} {S : mj_S} {Q : mj_Q} (hS : mk_Sh S) {N : Int → Int} {B : Int → Int → Bool} (hN : Inv N) {W : Int → Int} (s : Int) (hF : FO N I) (hd : 1 < d) (hs : 0 ≤ s ∧ s < N 3) (hW : ∀ q, 0 ≤ q → q < s → 0 ≤ W q ∧ W q < N 2) (hR : SR N B I W s)
    (hT : Q (some (.inl 1)) I S) (hU : utP N W s → Q (some (.inl 0)) I S) : mj_C d 126 [.inr 101, .inl s] I S Q := by
  have hH := hN.1
  unfold InvH at hH
  have hmb := hF.2.2.2.1
  have hask : mj_and (mj_shr (I 101 10) s) 1 = 0 ↔ mt (I 101 10) s.toNat = false := ask0 (by omega)
  have loop : ∀ m k : Nat, (k + m : Int) = I 101 9 → ∀ (kk : Int), kk = k → mt (I 101 10) s.toNat = false → (∀ m : Int, 0 ≤ m → m < k → rd I 105 m ≤ s → s < rd I 106 m → rd I 107 m ≤ pc7 (sb W (rd I 105 m) (s - rd I 105 m).toNat)) →
      xW d 126 11 [some (.inr (7, 0, 101, 0)), some (.inl s), some (.inl kk)] [] I S Q := by
    intro m
    induction m with
    | zero =>
      intro k hk kk h1 h2 h3
      refine x_hd false [11] 30 ?_
      (repeat' (first | with_reducible assumption | with_reducible exact rfl | with_reducible exact trivial | (with_reducible (show (_ : Int) ≤ _); omega) | (with_reducible (show (_ : Int) < _); omega) | (with_reducible (show (_ : Nat) < _); omega) | (with_reducible (show (_ : Nat) ≤ _); omega) | with_reducible exact Or.inl rfl | with_reducible exact Or.inr rfl | with_reducible exact Or.inl trivial | with_reducible exact Or.inr trivial | (intro hz; exact absurd hz (by decide)) | (intro hz; exfalso; omega) | refine And.intro ?_ ?_ | intro _))
      refine hU ⟨fun r r0 r1 h0 h5 e => ?_, fun r r0 r1 h5 hlo hhi => ?_⟩
      · have := hF.2.2.2.2.2.2 r r0 r1 h0 h5
        rw [e, h2] at this
        exact absurd this (by decide)
      · obtain ⟨m, m0, m1, e1, e2, e3⟩ := hF.2.2.2.2.2.1 r r0 r1 h5
        have := h3 m m0 (by omega)
        rw [e1, e2, e3] at this
        exact this hlo hhi
    | succ m ih =>
      intro k hk kk h1 h2 h3
      subst h1
      have hb := many_b hN hF.2.2 (m := k) (by omega) (by omega)
      have h7 : mt7 (sb W (rd I 105 k) (s - rd I 105 k).toNat) := sb_W7 (by omega) (by omega) hW
      have nxt : (rd I 105 k ≤ s → s < rd I 106 k → rd I 107 k ≤ pc7 (sb W (rd I 105 k) (s - rd I 105 k).toNat)) → xW d 126 11 [some (.inr (7, 0, 101, 0)), some (.inl s), some (.inl ((k : Int) + 1))] [] I S Q := by
        intro hy
        refine ih (k + 1) (by omega) _ (by omega) h2 (fun m m0 m1 => ?_)
        by_cases e : m = k
        · rw [e]; exact hy
        · exact h3 m m0 (by omega)
      refine x_hd false [11] 60 ?_
      (repeat' (first | refine c_seen hS W _ _ ?_ (fun q q0 q1 => hR.1 q (by omega) q1) ?_ | refine c_bits _ h7 ?_ | with_reducible assumption | with_reducible exact rfl | with_reducible exact trivial | (with_reducible (show (_ : Int) ≤ _); omega) | (with_reducible (show (_ : Int) < _); omega) | (with_reducible (show (_ : Nat) < _); omega) | (with_reducible (show (_ : Nat) ≤ _); omega) | with_reducible exact Or.inl rfl | with_reducible exact Or.inr rfl | with_reducible exact Or.inl trivial | with_reducible exact Or.inr trivial | (intro hz; exact absurd hz (by decide)) | (intro hz; exfalso; omega) | refine And.intro ?_ ?_ | intro _))
      all_goals exact nxt (fun _ _ => by omega)
  refine x_C false [.inr (7, 0, 101, 0), .inl s] [11] 30 hS ⟨xok_fi hS, trivial, trivial⟩ ?_
  (repeat' (first | with_reducible assumption | with_reducible exact rfl | with_reducible exact trivial | (with_reducible (show (_ : Int) ≤ _); omega) | (with_reducible (show (_ : Int) < _); omega) | (with_reducible (show (_ : Nat) < _); omega) | (with_reducible (show (_ : Nat) ≤ _); omega) | with_reducible exact Or.inl rfl | with_reducible exact Or.inr rfl | with_reducible exact Or.inl trivial | with_reducible exact Or.inr trivial | (intro hz; exact absurd hz (by decide)) | (intro hz; exfalso; omega) | refine And.intro ?_ ?_ | intro _))
  rename_i z
  exact loop (I 101 9).toNat 0 (by omega) _ rfl (hask.mp z) (fun m m0 m1 => by omega)
theorem ru_W2 {N W : Int → Int} {s p : Int} (hW : ∀ q, 0 ≤ q → q < s → 0 ≤ W q ∧ W q < N 2) (hp : 0 ≤ p ∧ p < N 2) : ∀ q, 0 ≤ q → q < s + 1 → 0 ≤ ru W s p q ∧ ru W s p q < N 2 := by
  intro q q0 q1
  by_cases e : q = s
  · rw [e, ru_s]; exact hp
  · rw [ru_n e]; exact hW q q0 (by omega)
/-- 127 give -/
theorem c_give {d : Nat} {I : mj_I} {S : mj_S} {Q : mj_Q} (hS : mk_Sh S) {N : Int → Int} {B : Int → Int → Bool} (hN : Inv N) {W : Int → Int} (k : Nat) (s p : Int) (hF : FO N I) (hd : 0 < d) (hs : 0 ≤ s) (hk : s + k + 1 = N 3) (hp : 0 ≤ p ∧ p < N 2) (hW : ∀ q, 0 ≤ q → q < s → 0 ≤ W q ∧ W q < N 2) (hR : SR N B I W s)
    (hT : ∀ J, sF s I J → FO N J → SR N B J (ru W s p) (s + 1) → Q (some (.inl 1)) J S) (hE : ∀ J, sF s I J → wl N B k (s + 1) (ru W s p) = [] → Q (some (.inl 0)) J S) : mj_C d 127 [.inr 101, .inl s, .inl p] I S Q := by
  have hH := hN.1
  unfold InvH at hH
  have loop : ∀ (m : Nat) (t : Int), s + 1 ≤ t → t + m = N 3 → ∀ (w : Option xV) (J : mj_I), sF s I J → rd J 108 s = p → (∀ u, s + 1 ≤ u → u < t → rd J 103 ((s + 1) * 6 + u) = mj_and (rd I 103 (s * 6 + u)) (rd I 104 ((s * 6 + u) * 7 + p))) →
      xW d 127 9 [some (.inr (7, 0, 101, 0)), some (.inl s), some (.inl p), some (.inl t), w] [] J S Q := by
    intro m
    induction m with
    | zero =>
      intro t t0 t1 w J h1 h2 h3
      have e1 : J 101 1 = N 3 := by rw [h1.1.f (by omega)]; exact hF.2.1
      refine x_hd false [9] 30 ?_
      (repeat' (first | with_reducible assumption | with_reducible exact rfl | with_reducible exact trivial | (with_reducible (show (_ : Int) ≤ _); omega) | (with_reducible (show (_ : Int) < _); omega) | (with_reducible (show (_ : Nat) < _); omega) | (with_reducible (show (_ : Nat) ≤ _); omega) | with_reducible exact Or.inl rfl | with_reducible exact Or.inr rfl | with_reducible exact Or.inl trivial | with_reducible exact Or.inr trivial | (intro hz; exact absurd hz (by decide)) | (intro hz; exfalso; omega) | refine And.intro ?_ ?_ | intro _))
      refine hT J h1 (hF.fr h1.1) ⟨fun q q0 q1 => ?_, fun u u0 u1 => ?_⟩
      · by_cases e : q = s
        · rw [e, ru_s, h2]
        · rw [ru_n e, h1.2.2 q (by omega)]
          exact hR.1 q q0 (by omega)
      · rw [h3 u u0 (by omega)]
        have hu := hR.2 u (by omega) (by omega)
        refine ⟨mtn_and hu.1, fun q q0 q1 => ?_⟩
        rw [mt_and, Bool.and_eq_true, hu.2 q q0 q1, hF.2.2.1 s u p q hs (by omega) (by omega) (by omega) hp.1 hp.2 q0 q1]
        constructor
        · intro ⟨⟨a, b⟩, c⟩
          refine ⟨a, fun v v0 v1 => ?_⟩
          by_cases e : v = s
          · rw [e, ru_s]; exact c
          · rw [ru_n e]; exact b v v0 (by omega)
        · intro ⟨a, b⟩
          refine ⟨⟨a, fun v v0 v1 => ?_⟩, ?_⟩
          · have := b v v0 (by omega)
            rw [ru_n (by omega)] at this
            exact this
          · have := b s (by omega) (by omega)
            rw [ru_s] at this
            exact this
    | succ m ih =>
      intro t t0 t1 w J h1 h2 h3
      have e1 : J 101 1 = N 3 := by rw [h1.1.f (by omega)]; exact hF.2.1
      have e4 : rd J 104 = rd I 104 := h1.1.r (by omega)
      have e3 : rd J 103 (s * 6 + t) = rd I 103 (s * 6 + t) := h1.2.1 _ (by omega)
      refine x_hd false [9] 60 ?_
      (repeat' (first | refine c_fitPlace hS _ _ _ ?_ ?_ ?_ ?_ | rw [e3] | rw [e4] | with_reducible assumption | with_reducible exact rfl | with_reducible exact trivial | (with_reducible (show (_ : Int) ≤ _); omega) | (with_reducible (show (_ : Int) < _); omega) | (with_reducible (show (_ : Nat) < _); omega) | (with_reducible (show (_ : Nat) ≤ _); omega) | with_reducible exact Or.inl rfl | with_reducible exact Or.inr rfl | with_reducible exact Or.inl trivial | with_reducible exact Or.inr trivial | (intro hz; exact absurd hz (by decide)) | (intro hz; exfalso; omega) | refine And.intro ?_ ?_ | intro _))
      · refine ih (t + 1) (by omega) (by omega) _ _ ⟨h1.1.up (Or.inl rfl) _ _, fun j hj => ?_, fun q hq => ?_⟩ ?_ (fun u u0 u1 => ?_)
        · rw [rd_up (by omega) (by omega), ru_n (by omega)]
          exact h1.2.1 j hj
        · rw [rd_uo (by decide)]
          exact h1.2.2 q hq
        · rw [rd_uo (by decide)]
          exact h2
        · rw [rd_up (by omega) (by omega)]
          by_cases e : u = t
          · rw [e, ru_s]
          · rw [ru_n (by omega)]
            exact h3 u u0 (by omega)
      · rename_i z
        refine hE J h1 (wl_no hN (t := t) (by omega) (by omega) (fun q q0 q1 => (ru_W2 hW hp q q0 q1).1) ⟨by omega, by omega⟩ (fun q q0 q1 ⟨b1, b2⟩ => ?_))
        have m1 : mt (rd I 103 (s * 6 + t)) q.toNat = true := ((hR.2 t (by omega) (by omega)).2 q q0 q1).mpr ⟨b1, fun u u0 u1 => by have := b2 u u0 (by omega); rw [ru_n (by omega)] at this; exact this⟩
        have m2 : mt (rd I 104 ((s * 6 + t) * 7 + p)) q.toNat = true := (hF.2.2.1 s t p q hs (by omega) (by omega) (by omega) hp.1 hp.2 q0 q1).mpr (by have := b2 s (by omega) (by omega); rw [ru_s] at this; exact this)
        have m3 : mt (mj_and (rd I 103 (s * 6 + t)) (rd I 104 ((s * 6 + t) * 7 + p))) q.toNat = true := by rw [mt_and, m1, m2]; rfl
        rw [z, mt_0] at m3
        exact absurd m3 (by decide)
  refine x_C false [.inr (7, 0, 101, 0), .inl s, .inl p] [9] 30 hS ⟨xok_fi hS, trivial, trivial, trivial⟩ ?_
  (repeat' (first | with_reducible assumption | with_reducible exact rfl | with_reducible exact trivial | (with_reducible (show (_ : Int) ≤ _); omega) | (with_reducible (show (_ : Int) < _); omega) | (with_reducible (show (_ : Nat) < _); omega) | (with_reducible (show (_ : Nat) ≤ _); omega) | with_reducible exact Or.inl rfl | with_reducible exact Or.inr rfl | with_reducible exact Or.inl trivial | with_reducible exact Or.inr trivial | (intro hz; exact absurd hz (by decide)) | (intro hz; exfalso; omega) | refine And.intro ?_ ?_ | intro _))
  refine loop k (s + 1) (by omega) (by omega) _ _ ⟨fr.refl.up (Or.inr rfl) _ _, fun j _ => by rw [rd_uo (by decide)], fun q hq => ?_⟩ ?_ (fun u u0 u1 => by omega)
  · rw [rd_up (by omega) (by omega), ru_n (by omega)]
  · rw [rd_up (by omega) (by omega), ru_s]
