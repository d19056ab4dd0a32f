/-! rules kept -/
def pcn (x : Int) : Nat → Int
  | 0 => 0
  | k + 1 => pcn x k + (if mt x k = true then 1 else 0)
def pc7 (x : Int) : Int := pcn x 7
theorem pc7_pc : ∀ n, n < 128 → (w_pc n : Int) = pc7 (n : Nat) := by decide +kernel
theorem c_bits {d : Nat} {I : mj_I} {S : mj_S} {Q : mj_Q} (x : Int) (hx : mt7 x) (h : Q (some (.inl (pc7 x))) I S) : mj_C d 38 [.inl x] I S Q := by
  obtain ⟨n, rfl⟩ := Int.eq_ofNat_of_zero_le hx.1
  have hn : n < 128 := by have := hx.2; omega
  rw [← pc7_pc n hn] at h
  exact c_bitCount n hn h
/-- the people from lo on, as bits -/
def sb (W : Int → Int) (lo : Int) : Nat → Int
  | 0 => 0
  | k + 1 => mj_or (sb W lo k) (mj_shl 1 (W (lo + k)))
def ngB (W : Int → Int) (lo : Int) : Nat → Bool
  | 0 => false
  | k + 1 => ngB W lo k || decide (W (lo + k) < 0)
theorem mt_one {p : Int} (h : 0 ≤ p ∧ p < 32) {i : Nat} (hi : i < 32) : mt (mj_shl 1 p) i = decide ((i : Int) = p) := by
  have := mt_bit p.toNat (by omega) i hi
  rw [show ((p.toNat : Nat) : Int) = p by omega] at this
  rw [this]
  by_cases e : (i : Int) = p
  · rw [decide_eq_true (show i = p.toNat by omega), decide_eq_true e]
  · rw [decide_eq_false (show ¬ i = p.toNat by omega), decide_eq_false e]
theorem mt7_0 : mt7 0 := by unfold mt7; omega
theorem mt7_or {x p : Int} (h : mt7 x) (hp : 0 ≤ p ∧ p < 7) : mt7 (mj_or x (mj_shl 1 p)) := by
  refine mt7_of (mj_or_R _ _) (fun i h7 h32 => ?_)
  rw [mt_or, mt7_hi h h7, mt_one (by omega) h32, decide_eq_false (by omega)]
  rfl
theorem sb_7 {W : Int → Int} {lo : Int} : ∀ {k : Nat}, (∀ i : Nat, i < k → 0 ≤ W (lo + i) ∧ W (lo + i) < 7) → mt7 (sb W lo k)
  | 0, _ => mt7_0
  | k + 1, h => mt7_or (sb_7 (fun i hi => h i (by omega))) (h k (by omega))
theorem ngB_f {W : Int → Int} {lo : Int} : ∀ {k : Nat}, ngB W lo k = false → ∀ i : Nat, i < k → 0 ≤ W (lo + i)
  | 0, _, i, hi => by omega
  | k + 1, h, i, hi => by
    unfold ngB at h
    rw [Bool.or_eq_false_iff, decide_eq_false_iff_not] at h
    by_cases e : i = k
    · subst e; omega
    · exact ngB_f h.1 i (by omega)
theorem ngB_t {W : Int → Int} {lo : Int} : ∀ {k i : Nat}, i < k → W (lo + i) < 0 → ngB W lo k = true
  | 0, i, hi, _ => by omega
  | k + 1, i, hi, h => by
    unfold ngB
    by_cases e : i = k
    · subst e; rw [decide_eq_true h, Bool.or_true]
    · rw [ngB_t (show i < k by omega) h, Bool.true_or]
abbrev okP (N : Int → Int) (kind n a b : Int) : Prop := (kind = 2 ∧ a = b) ∨ (kind ≠ 2 ∧ a ≠ b ∧ (kind = 3 → N (8 + 8 * a + 2) = 0 ∨ N (8 + 8 * a + 2) ≠ N (8 + 8 * b + 2)) ∧ (kind = 4 → N (8 + 8 * a + 1) + n ≤ N (8 + 8 * b + 1)))
def lo1 (N : Int → Int) (r : Int) : Int := min (N (88 + 4 * r + 1)) (N (88 + 4 * r + 2))
def hi1 (N : Int → Int) (r : Int) : Int := max (N (88 + 4 * r + 1)) (N (88 + 4 * r + 2))
def keptB (N W : Int → Int) (r : Int) : Bool := if N (88 + 4 * r + 0) = 5 then (ngB W (lo1 N r) (hi1 N r - lo1 N r + 1).toNat || decide (N (88 + 4 * r + 3) ≤ pc7 (sb W (lo1 N r) (hi1 N r - lo1 N r + 1).toNat))) else decide (N (88 + 4 * r + 0) = 0 ∨ W (N (88 + 4 * r + 1)) < 0 ∨ W (N (88 + 4 * r + 2)) < 0 ∨ okP N (N (88 + 4 * r + 0)) (N (88 + 4 * r + 3)) (W (N (88 + 4 * r + 1))) (W (N (88 + 4 * r + 2))))
theorem keptB_p {N W : Int → Int} {r : Int} (h : N (88 + 4 * r + 0) ≠ 5) : keptB N W r = decide (N (88 + 4 * r + 0) = 0 ∨ W (N (88 + 4 * r + 1)) < 0 ∨ W (N (88 + 4 * r + 2)) < 0 ∨ okP N (N (88 + 4 * r + 0)) (N (88 + 4 * r + 3)) (W (N (88 + 4 * r + 1))) (W (N (88 + 4 * r + 2)))) := if_neg h
theorem keptB_m {N W : Int → Int} {r : Int} (h : N (88 + 4 * r + 0) = 5) : keptB N W r = (ngB W (lo1 N r) (hi1 N r - lo1 N r + 1).toNat || decide (N (88 + 4 * r + 3) ≤ pc7 (sb W (lo1 N r) (hi1 N r - lo1 N r + 1).toNat))) := if_pos h
theorem pcn_b (x : Int) : ∀ k : Nat, 0 ≤ pcn x k ∧ pcn x k ≤ k
  | 0 => ⟨Int.le_refl 0, Int.le_refl 0⟩
  | k + 1 => by
    have ih := pcn_b x k
    unfold pcn
    split <;> omega
/-- 227 keptBy -/
theorem m_keptBy {d : Nat} {I : mj_I} {S : mj_S} {Q : mj_Q} (hS : mk_Sh S) (r : Int) (hN : Inv (rd I 151)) (hd : 1 < d) (hr : 0 ≤ r ∧ r < rd I 151 4) (hW : ∀ s, 0 ≤ s → s < 6 → -1 ≤ rd I 155 s ∧ rd I 155 s < rd I 151 2)
    (hT : keptB (rd I 151) (rd I 155) r = true → Q (some (.inl 1)) I S) (hF : keptB (rd I 151) (rd I 155) r = false → Q (some (.inl 0)) I S) : mj_C d 227 [.inr 150, .inl r, .inr 155] I S Q := by
  have hH := hN.1
  have hR := hN.2.2.2.1 r hr.1 hr.2
  unfold InvH at hH
  unfold InvR at hR
  have okd : xok S (21, 0, 155, 6) := x_chq_ok hS (by decide +kernel)
  generalize hN2 : rd I 151 = N at *
  generalize hW2 : rd I 155 = W at *
  generalize hk0 : N (88 + 4 * r + 0) = k0 at *
  generalize hk1 : N (88 + 4 * r + 1) = k1 at *
  generalize hk2 : N (88 + 4 * r + 2) = k2 at *
  generalize hk3 : N (88 + 4 * r + 3) = k3 at *
  have hW1 := hW k1 (by omega) (by omega)
  have hW3 := hW k2 (by omega) (by omega)
  by_cases h5 : k0 = 5
  · rw [keptB_m (by omega)] at hT hF
    have loop2 : ∀ m i : Nat, i + m = 7 → ∀ (sum ii x : Int), mt7 x → ii = i → sum = pcn x i → (k3 ≤ pc7 x → Q (some (.inl 1)) I S) → (¬ k3 ≤ pc7 x → Q (some (.inl 0)) I S) →
        xW d 227 60 [some (.inr (13, 0, 150, 0)), some (.inl r), some (.inr (21, 0, 155, 6)), some (.inl k0), some (.inl k1), some (.inl k2), some (.inl k3), some (.inl x), some (.inl sum), some (.inl ii)] [] I S Q := by
      intro m
      induction m with
      | zero =>
        intro i hi sum ii x hx h1 h2 h3 h4
        have e : i = 7 := by omega
        subst e
        have e2 : sum = pc7 x := h2
        refine x_hd false [60] 40 ?_
        (repeat' (first | with_reducible assumption | with_reducible exact rfl | with_reducible exact trivial | (with_reducible (show (_ : Int) ≤ _); omega) | (with_reducible (show (_ : Int) < _); omega) | (with_reducible (show (_ : Nat) < _); omega) | (with_reducible (show (_ : Nat) ≤ _); omega) | with_reducible exact Or.inl rfl | with_reducible exact Or.inr rfl | with_reducible exact Or.inl trivial | with_reducible exact Or.inr trivial | (intro hz; exact absurd hz (by decide)) | (intro hz; exfalso; omega) | refine And.intro ?_ ?_ | intro _))
        · exact h4 (by omega)
        · exact h3 (by omega)
      | succ m ih =>
        intro i hi sum ii x hx h1 h2 h3 h4
        have hpb := pcn_b x i
        have hb : mj_and (mj_shr x ii) 1 = if mt x i = true then 1 else 0 := by rw [h1]; exact mj_ask x (by omega)
        have hb2 : (0 ≤ mj_and (mj_shr x ii) 1 ∧ mj_and (mj_shr x ii) 1 ≤ 1) := by rw [hb]; split <;> omega
        refine x_hd false [60] 40 ?_
        (repeat' (first | with_reducible assumption | with_reducible exact rfl | with_reducible exact trivial | (with_reducible (show (_ : Int) ≤ _); omega) | (with_reducible (show (_ : Int) < _); omega) | (with_reducible (show (_ : Nat) < _); omega) | (with_reducible (show (_ : Nat) ≤ _); omega) | with_reducible exact Or.inl rfl | with_reducible exact Or.inr rfl | with_reducible exact Or.inl trivial | with_reducible exact Or.inr trivial | (intro hz; exact absurd hz (by decide)) | (intro hz; exfalso; omega) | refine And.intro ?_ ?_ | intro _))
        refine ih (i + 1) (by omega) _ _ _ hx (by omega) ?_ h3 h4
        rw [h2, hb]
        rfl
    have hlo : lo1 N r = min k1 k2 := by unfold lo1; rw [hk1, hk2]
    have hhi : hi1 N r = max k1 k2 := by unfold hi1; rw [hk1, hk2]
    rw [hlo, hhi, hk3] at hT hF
    have loop1 : ∀ m i : Nat, (i + m : Int) = max k1 k2 - min k1 k2 + 1 → ngB W (min k1 k2) i = false → ∀ (x s : Int) (w : Option xV), x = sb W (min k1 k2) i → s = min k1 k2 + i →
        xW d 227 32 [some (.inr (13, 0, 150, 0)), some (.inl r), some (.inr (21, 0, 155, 6)), some (.inl k0), some (.inl k1), some (.inl k2), some (.inl k3), some (.inl x), some (.inl s), w] [] I S Q := by
      intro m
      induction m with
      | zero =>
        intro i hi hn x s w h1 h2
        have hx7 : mt7 x := by
          rw [h1]
          refine sb_7 (fun j hj => ?_)
          have q1 := ngB_f hn j hj
          have q2 := hW (min k1 k2 + j) (by omega) (by omega)
          omega
        have hi2 : (max k1 k2 - min k1 k2 + 1).toNat = i := by omega
        rw [hi2, hn, Bool.false_or, decide_eq_true_eq, ← h1] at hT
        rw [hi2, hn, Bool.false_or, decide_eq_false_iff_not, ← h1] at hF
        refine x_hd false [32, 60] 40 ?_
        (repeat' (first | with_reducible assumption | with_reducible exact rfl | with_reducible exact trivial | (with_reducible (show (_ : Int) ≤ _); omega) | (with_reducible (show (_ : Int) < _); omega) | (with_reducible (show (_ : Nat) < _); omega) | (with_reducible (show (_ : Nat) ≤ _); omega) | with_reducible exact Or.inl rfl | with_reducible exact Or.inr rfl | with_reducible exact Or.inl trivial | with_reducible exact Or.inr trivial | (intro hz; exact absurd hz (by decide)) | (intro hz; exfalso; omega) | refine And.intro ?_ ?_ | intro _))
        all_goals exact loop2 7 0 (by omega) _ _ _ hx7 rfl rfl hT hF
      | succ m ih =>
        intro i hi hn x s w h1 h2
        have q2 := hW s (by omega) (by omega)
        refine x_hd false [32] 40 ?_
        (repeat' (first | rw [hW2] | with_reducible assumption | with_reducible exact rfl | with_reducible exact trivial | (with_reducible (show (_ : Int) ≤ _); omega) | (with_reducible (show (_ : Int) < _); omega) | (with_reducible (show (_ : Nat) < _); omega) | (with_reducible (show (_ : Nat) ≤ _); omega) | with_reducible exact Or.inl rfl | with_reducible exact Or.inr rfl | with_reducible exact Or.inl trivial | with_reducible exact Or.inr trivial | (intro hz; exact absurd hz (by decide)) | (intro hz; exfalso; omega) | refine And.intro ?_ ?_ | intro _))
        all_goals first
          | (refine ih (i + 1) (by omega) ?_ _ _ _ ?_ (by omega)
             · unfold ngB
               rw [hn, ← h2, Bool.false_or]
               exact decide_eq_false (by omega)
             · rw [h1, h2]
               rfl)
          | (refine hT ?_
             rw [ngB_t (i := i) (by omega) (by rw [← h2]; omega)]
             rfl)
    refine x_C false [.inr (13, 0, 150, 0), .inl r, .inr (21, 0, 155, 6)] [32] 80 hS ⟨xok_m hS, trivial, okd, trivial⟩ ?_
    (repeat' (first | simp only [hN2, hk0, hk1, hk2, hk3] | refine m_rule4 hS _ _ ?_ ?_ ?_ | with_reducible assumption | with_reducible exact rfl | with_reducible exact trivial | (with_reducible (show (_ : Int) ≤ _); omega) | (with_reducible (show (_ : Int) < _); omega) | (with_reducible (show (_ : Nat) < _); omega) | (with_reducible (show (_ : Nat) ≤ _); omega) | with_reducible exact Or.inl rfl | with_reducible exact Or.inr rfl | with_reducible exact Or.inl trivial | with_reducible exact Or.inr trivial | (intro hz; exact absurd hz (by decide)) | (intro hz; exfalso; omega) | refine And.intro ?_ ?_ | intro _))
    all_goals exact loop1 (max k1 k2 - min k1 k2 + 1).toNat 0 (by omega) rfl _ _ _ rfl (by omega)
  · rw [keptB_p (by omega), decide_eq_true_eq] at hT
    rw [keptB_p (by omega), decide_eq_false_iff_not] at hF
    have hP1 : 0 ≤ W k1 → (0 ≤ N (8 + 8 * W k1 + 1) ∧ N (8 + 8 * W k1 + 1) ≤ 9) := fun z => (hN.2.1 _ z hW1.2).2.1
    have hP2 : 0 ≤ W k2 → (0 ≤ N (8 + 8 * W k2 + 1) ∧ N (8 + 8 * W k2 + 1) ≤ 9) := fun z => (hN.2.1 _ z hW3.2).2.1
    refine x_C false [.inr (13, 0, 150, 0), .inl r, .inr (21, 0, 155, 6)] [32] 120 hS ⟨xok_m hS, trivial, okd, trivial⟩ ?_
    (repeat' (first | simp only [hN2, hk0, hk1, hk2, hk3, hW2] | refine m_rule4 hS _ _ ?_ ?_ ?_ | refine m_of8 hS _ _ ?_ ?_ ?_ | with_reducible assumption | with_reducible exact rfl | with_reducible exact trivial | (with_reducible (show (_ : Int) ≤ _); omega) | (with_reducible (show (_ : Int) < _); omega) | (with_reducible (show (_ : Nat) < _); omega) | (with_reducible (show (_ : Nat) ≤ _); omega) | with_reducible exact Or.inl rfl | with_reducible exact Or.inr rfl | with_reducible exact Or.inl trivial | with_reducible exact Or.inr trivial | (intro hz; exact absurd hz (by decide)) | (intro hz; exfalso; omega) | refine And.intro ?_ ?_ | intro _))
    all_goals (simp only [hk0, hk1, hk2, hk3, okP] at hT hF)
    all_goals first | exact hT (by omega) | exact hF (by omega)
