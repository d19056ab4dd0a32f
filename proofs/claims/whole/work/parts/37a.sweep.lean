/-! notes, sweeps -/
theorem m_goN {d : Nat} {I : mj_I} {S : mj_S} {Q : mj_Q} (hS : mk_Sh S) (hN : Inv (rd I 151)) (hd : 3 < d) {v : Int → Int} (h1 : 1 ≤ rd I 151 3) (hv : ∀ q, 0 ≤ q → q < rd I 151 3 → 0 ≤ v q ∧ v q < rd I 151 2) (hr : ∀ q, 0 ≤ q → q < 6 → rd I 155 q = cut v (rd I 151 3) q)
    (hE : rsL (rd I 151) (fun s p => mt (rd I 164 s) p.toNat) v (rd I 151 3).toNat = [] → ∀ A, fr (fun a => a = 155) I A → Q (some (.inl (-1))) A S)
    (hX : ∀ u l, rsL (rd I 151) (fun s p => mt (rd I 164 s) p.toNat) v (rd I 151 3).toNat = u :: l → ∀ A, fr (fun a => a = 155) I A → (∀ q, 0 ≤ q → q < 6 → rd A 155 q = u q) → Q (some (.inl (rd I 151 3))) A S) : mj_C d 253 [.inr 150, .inl (rd I 151 3 - 1)] I S Q := by
  have hH := hN.1
  unfold InvH at hH
  have e : (((rd I 151 3).toNat : Nat) : Int) = rd I 151 3 := by omega
  have main := m_goR (d := d) (Q := Q) hS hN hd (rd I 151 3 - 1) hv (rd I 151 3).toNat (by omega) I none fr.refl (fun q q0 q1 => by rw [e]; exact hr q q0 q1) hE hX
  rw [e] at main
  refine x_C false [.inr (13, 0, 150, 0), .inl (rd I 151 3 - 1)] [2] 20 hS ⟨xok_m hS, trivial, trivial⟩ ?_
  exact main
theorem dIn_b {N : Int → Int} {p : Int} : ∀ L : List (Int → Int), 0 ≤ dIn N p L ∧ dIn N p L ≤ L.length
  | [] => ⟨Int.le_refl 0, Int.le_refl 0⟩
  | w :: l => by
    have := dIn_b (N := N) (p := p) l
    unfold dIn
    rw [List.length_cons]
    split <;> omega
theorem mst_b {N : Int → Int} {p : Int} (h : N 3 ≤ 6) : ∀ L : List (Int → Int), 0 ≤ mst N p L ∧ mst N p L ≤ 6
  | [] => ⟨Int.le_refl 0, by show (0 : Int) ≤ 6; omega⟩
  | w :: l => by
    have := mst_b (N := N) (p := p) h l
    have h2 := occN_b (W := w) (p := p) (N 3).toNat
    unfold mst occ
    omega
theorem dIn_app {N : Int → Int} {p : Int} {w : Int → Int} : ∀ L : List (Int → Int), dIn N p (L ++ [w]) = dIn N p L + (if 0 < occ N w p then 1 else 0)
  | [] => rfl
  | v :: l => by
    show dIn N p (l ++ [w]) + _ = dIn N p l + _ + _
    rw [dIn_app l]
    omega
theorem mst_app {N : Int → Int} {p : Int} {w : Int → Int} : ∀ L : List (Int → Int), mst N p (L ++ [w]) = max (occ N w p) (mst N p L)
  | [] => rfl
  | v :: l => by
    show max (occ N v p) (mst N p (l ++ [w])) = max (occ N w p) (max (occ N v p) (mst N p l))
    rw [mst_app l]
    omega
theorem CaOK_app {N : Int → Int} {P : List (Int → Int)} {w : Int → Int} {I J : mj_I} (hP : CaOK N P I) (h28 : J 150 28 = I 150 28 + 1) (h31 : J 150 31 = if I 150 28 = 0 then cst N w else I 150 31) (h32 : J 150 32 = if I 150 28 = 0 ∨ cst N w < I 150 32 then cst N w else I 150 32) (h165 : ∀ s, 0 ≤ s → s < 6 → rd J 165 s = if I 150 28 = 0 then w s else rd I 165 s) (h166 : ∀ s, 0 ≤ s → s < 6 → rd J 166 s = if I 150 28 = 0 ∨ cst N w < I 150 32 then w s else rd I 166 s)
    (h167 : ∀ p, 0 ≤ p → p < N 2 → rd J 167 p = rd I 167 p + (if 0 < occ N w p then 1 else 0)) (h168 : ∀ p, 0 ≤ p → p < N 2 → rd J 168 p = max (occ N w p) (rd I 168 p)) : CaOK N (P ++ [w]) J := by
  obtain ⟨c1, c2, c3⟩ := hP
  refine ⟨by rw [h28, c1, List.length_append]; rfl, fun w0 l0 e => ?_, fun p p0 p1 => ?_⟩
  · cases P with
    | nil =>
      have z : I 150 28 = 0 := c1
      injection e with e1 e2
      subst e1
      subst e2
      refine ⟨fun s s0 s1 => by rw [h165 s s0 s1, if_pos z], by rw [h31, if_pos z], fun s s0 s1 => by rw [h166 s s0 s1, if_pos (Or.inl z)]; rfl, by rw [h32, if_pos (Or.inl z)]; rfl⟩
    | cons u l =>
      have z : ¬ I 150 28 = 0 := by rw [c1, List.length_cons]; omega
      rw [List.cons_append] at e
      injection e with e1 e2
      subst e1
      subst e2
      obtain ⟨g1, g2, g3, g4⟩ := c2 u l rfl
      rw [bst_app]
      have eb : bst N [w] (bst N l (u, cst N u)) = if cst N w < (bst N l (u, cst N u)).2 then (w, cst N w) else bst N l (u, cst N u) := rfl
      rw [eb, ← g4]
      refine ⟨fun s s0 s1 => by rw [h165 s s0 s1, if_neg z]; exact g1 s s0 s1, by rw [h31, if_neg z]; exact g2, fun s s0 s1 => ?_, ?_⟩
      · rw [h166 s s0 s1]
        by_cases q : cst N w < I 150 32
        · rw [if_pos (Or.inr q), if_pos q]
        · rw [if_neg (fun y => y.elim z q), if_neg q]; exact g3 s s0 s1
      · rw [h32]
        by_cases q : cst N w < I 150 32
        · rw [if_pos (Or.inr q), if_pos q]
        · rw [if_neg (fun y => y.elim z q), if_neg q]; exact g4
  · obtain ⟨g1, g2⟩ := c3 p p0 p1
    rw [h167 p p0 p1, h168 p p0 p1, dIn_app, mst_app, g1, g2]
    exact ⟨rfl, rfl⟩
/-- 255 notes -/
theorem m_notes {d : Nat} {I : mj_I} {S : mj_S} {Q : mj_Q} (hS : mk_Sh S) (hN : Inv (rd I 151)) (hd : 1 < d) {w : Int → Int} (hw : ∀ q, 0 ≤ q → q < rd I 151 3 → 0 ≤ w q ∧ w q < rd I 151 2) (hr : ∀ q, 0 ≤ q → q < 6 → rd I 155 q = w q) (hc : ∀ s p, 0 ≤ s → s < rd I 151 3 → 0 ≤ p → p < rd I 151 2 → rd I 169 (7 * s + p) = costS (rd I 151) p s) {P : List (Int → Int)} (hP : CaOK (rd I 151) P I) (hl : P.length ≤ 117649)
    (h : ∀ J, fr (fun a => a = 150 ∨ (165 ≤ a ∧ a ≤ 168)) I J → (∀ k, k ≠ 28 → k ≠ 31 → k ≠ 32 → J 150 k = I 150 k) → CaOK (rd I 151) (P ++ [w]) J → Q none J S) : mj_C d 255 [.inr 150] I S Q := by
  have hH := hN.1
  unfold InvH at hH
  have h28 : I 150 28 = P.length := hP.1
  generalize hN2 : rd I 151 = N at *
  generalize hcw : cst N w = c at *
  have loop3 : ∀ (A : mj_I), fr (fun a => a = 150 ∨ (165 ≤ a ∧ a ≤ 168)) I A → (∀ k, k ≠ 31 → k ≠ 32 → A 150 k = I 150 k) → (A 150 31 = if I 150 28 = 0 then c else I 150 31) → (A 150 32 = if I 150 28 = 0 ∨ c < I 150 32 then c else I 150 32) → (∀ s, 0 ≤ s → s < 6 → rd A 165 s = if I 150 28 = 0 then w s else rd I 165 s) → (∀ s, 0 ≤ s → s < 6 → rd A 166 s = if I 150 28 = 0 ∨ c < I 150 32 then w s else rd I 166 s) →
      ∀ (m : Nat) (p : Int), 0 ≤ p → p + m = N 2 → ∀ (K : mj_I) (w3 w4 : Option xV), fr (fun a => a = 167 ∨ a = 168) A K → (∀ q, 0 ≤ q → q < p → rd K 167 q = rd I 167 q + (if 0 < occ N w q then 1 else 0) ∧ rd K 168 q = max (occ N w q) (rd I 168 q)) → (∀ q, p ≤ q → rd K 167 q = rd A 167 q ∧ rd K 168 q = rd A 168 q) → rd A 167 = rd I 167 → rd A 168 = rd I 168 → xW d 255 67 [some (.inr (13, 0, 150, 0)), some (.inl c), some (.inl p), w3, w4] [] K S Q := by
    intro A hA a1 a31 a32 a165 a166 m
    induction m with
    | zero =>
      intro p p0 p1 K w3 w4 hK k1 k2 aa ab
      have e151 : rd K 151 = N := by rw [hK.r (by omega), hA.r (by omega), hN2]
      have e28 : K 150 28 = I 150 28 := by rw [hK.f (by omega), a1 28 (by omega) (by omega)]
      refine x_hd false [67] 40 ?_
      (repeat' (first | rw [e151] | with_reducible assumption | with_reducible exact rfl | with_reducible exact trivial | (with_reducible (show (_ : Int) ≤ _); omega) | (with_reducible (show (_ : Int) < _); omega) | (with_reducible (show (_ : Nat) < _); omega) | (with_reducible (show (_ : Nat) ≤ _); omega) | with_reducible exact Or.inl rfl | with_reducible exact Or.inr rfl | with_reducible exact Or.inl trivial | with_reducible exact Or.inr trivial | (intro hz; exact absurd hz (by decide)) | (intro hz; exfalso; omega) | refine And.intro ?_ ?_ | intro _))
      refine h _ ((hA.tr (hK.mo (fun a q => by omega))).mu (by omega) _ _) (fun k g1 g2 g3 => ?_) (CaOK_app hP ?_ ?_ ?_ (fun s s0 s1 => ?_) (fun s s0 s1 => ?_) (fun q q0 q1 => ?_) (fun q q0 q1 => ?_))
      · rw [mu_f (by omega), hK.f (by omega), a1 k g2 g3]
      · rw [mj_up_s, e28]
      · rw [mu_f (by omega), hK.f (by omega), a31, hcw]
      · rw [mu_f (by omega), hK.f (by omega), a32, hcw]
      · rw [rd_mu (by omega), hK.r (by omega)]; exact a165 s s0 s1
      · rw [rd_mu (by omega), hK.r (by omega), hcw]; exact a166 s s0 s1
      · rw [rd_mu (by omega)]; exact (k1 q q0 (by omega)).1
      · rw [rd_mu (by omega)]; exact (k1 q q0 (by omega)).2
    | succ m ih =>
      intro p p0 p1 K w3 w4 hK k1 k2 aa ab
      have e151 : rd K 151 = N := by rw [hK.r (by omega), hA.r (by omega), hN2]
      have e155 : rd K 155 = rd I 155 := by rw [hK.r (by omega), hA.r (by omega)]
      have bd := dIn_b (N := N) (p := p) P
      have bm := mst_b (N := N) (p := p) (by omega) P
      have ed : rd K 167 p = dIn N p P := by rw [(k2 p (by omega)).1, aa]; exact (hP.2.2 p p0 (by omega)).1
      have em : rd K 168 p = mst N p P := by rw [(k2 p (by omega)).2, ab]; exact (hP.2.2 p p0 (by omega)).2
      have ed2 : rd K 167 p = rd I 167 p := by rw [(k2 p (by omega)).1, aa]
      have em2 : rd K 168 p = rd I 168 p := by rw [(k2 p (by omega)).2, ab]
      have inner : ∀ (x s : Nat), (s + x : Int) = N 3 → ∀ (n ss : Int), ss = s → n = occN w p s → xW d 255 77 [some (.inr (13, 0, 150, 0)), some (.inl c), some (.inl p), some (.inl n), some (.inl ss)] [] K S Q := by
        intro x
        induction x with
        | zero =>
          intro s hs n ss h1 h2
          have eo : occ N w p = n := by unfold occ; rw [h2, show (N 3).toNat = s by omega]
          have ob := occN_b (W := w) (p := p) s
          have fin : ∀ (y z : Int) (w3 w4 : Option xV), y = rd I 167 p + (if 0 < occ N w p then 1 else 0) → z = max (occ N w p) (rd I 168 p) → xW d 255 67 [some (.inr (13, 0, 150, 0)), some (.inl c), some (.inl (p + 1)), w3, w4] [] (up (up K 167 p y) 168 p z) S Q := by
            intro y z w3 w4 hy hz
            refine ih (p + 1) (by omega) (by omega) _ _ _ ((hK.up (by omega) _ _).up (by omega) _ _) (fun q q0 q1 => ?_) (fun q q0 => ?_) aa ab
            · rw [rd_uo (a := 168) (b := 167) (by omega), rd_up (by omega) (by omega), rd_up (by omega) (by omega), rd_uo (by omega)]
              by_cases e : q = p
              · rw [e, ru_s, ru_s]; exact ⟨hy, hz⟩
              · rw [ru_n e, ru_n e]; exact k1 q q0 (by omega)
            · rw [rd_uo (a := 168) (b := 167) (by omega), rd_up (by omega) (by omega), rd_up (by omega) (by omega), rd_uo (by omega), ru_n (by omega), ru_n (by omega)]
              exact k2 q (by omega)
          refine x_hd false [67, 77] 60 ?_
          (repeat' (first | rw [e151] | simp (disch := omega) only [rd_up, rd_uo, rd_mu, up_f, mu_f, mj_up_s, ru_s, ru_n] | with_reducible assumption | with_reducible exact rfl | with_reducible exact trivial | (with_reducible (show (_ : Int) ≤ _); omega) | (with_reducible (show (_ : Int) < _); omega) | (with_reducible (show (_ : Nat) < _); omega) | (with_reducible (show (_ : Nat) ≤ _); omega) | with_reducible exact Or.inl rfl | with_reducible exact Or.inr rfl | with_reducible exact Or.inl trivial | with_reducible exact Or.inr trivial | (intro hz; exact absurd hz (by decide)) | (intro hz; exfalso; omega) | refine And.intro ?_ ?_ | intro _))
          · exact fin _ _ _ _ (by rw [if_neg (by omega), ed2]) (by omega)
          · exact fin _ _ _ _ (by rw [if_pos (by omega), ed2]) (by omega)
          · exact fin _ _ _ _ (by rw [if_pos (by omega), ed2]) (by omega)
        | succ x ihx =>
          intro s hs n ss h1 h2
          subst h1
          have er : rd K 155 s = w s := by rw [e155]; exact hr s (by omega) (by omega)
          have ob := occN_b (W := w) (p := p) s
          refine x_hd false [67, 77] 60 ?_
          (repeat' (first | rw [e151] | rw [er] | with_reducible assumption | with_reducible exact rfl | with_reducible exact trivial | (with_reducible (show (_ : Int) ≤ _); omega) | (with_reducible (show (_ : Int) < _); omega) | (with_reducible (show (_ : Nat) < _); omega) | (with_reducible (show (_ : Nat) ≤ _); omega) | with_reducible exact Or.inl rfl | with_reducible exact Or.inr rfl | with_reducible exact Or.inl trivial | with_reducible exact Or.inr trivial | (intro hz; exact absurd hz (by decide)) | (intro hz; exfalso; omega) | refine And.intro ?_ ?_ | intro _))
          · rename_i z
            refine ihx (s + 1) (by omega) _ _ (by omega) ?_
            show n + 0 = occN w p s + (if w s = p then 1 else 0)
            rw [if_neg z, h2]
          · rename_i z
            refine ihx (s + 1) (by omega) _ _ (by omega) ?_
            show n + 1 = occN w p s + (if w s = p then 1 else 0)
            rw [if_pos z, h2]
      refine x_hd false [67, 77] 30 ?_
      (repeat' (first | rw [e151] | with_reducible assumption | with_reducible exact rfl | with_reducible exact trivial | (with_reducible (show (_ : Int) ≤ _); omega) | (with_reducible (show (_ : Int) < _); omega) | (with_reducible (show (_ : Nat) < _); omega) | (with_reducible (show (_ : Nat) ≤ _); omega) | with_reducible exact Or.inl rfl | with_reducible exact Or.inr rfl | with_reducible exact Or.inl trivial | with_reducible exact Or.inr trivial | (intro hz; exact absurd hz (by decide)) | (intro hz; exfalso; omega) | refine And.intro ?_ ?_ | intro _))
      exact inner (N 3).toNat 0 (by omega) _ _ rfl rfl
  have loop1 : ∀ (m : Nat) (s : Int), 0 ≤ s → s + m = 6 → ∀ (A : mj_I) (w3 w4 : Option xV), fr (fun a => a = 150 ∨ a = 165 ∨ a = 166) I A → (∀ k, k ≠ 31 → A 150 k = I 150 k) → (A 150 31 = if I 150 28 = 0 then c else I 150 31) → (∀ u, 0 ≤ u → u < s → rd A 165 u = (if I 150 28 = 0 then w u else rd I 165 u) ∧ rd A 166 u = (if I 150 28 = 0 ∨ c < I 150 32 then w u else rd I 166 u)) → (∀ u, s ≤ u → rd A 165 u = rd I 165 u ∧ rd A 166 u = rd I 166 u) →
      xW d 255 11 [some (.inr (13, 0, 150, 0)), some (.inl c), some (.inl s), w3, w4] [] A S Q := by
    intro m
    induction m with
    | zero =>
      intro s s0 s1 A w3 w4 hA a1 a31 a2 a3
      have e28 : A 150 28 = I 150 28 := a1 28 (by omega)
      have e32 : A 150 32 = I 150 32 := a1 32 (by omega)
      have fin : ∀ (v : Int) (w3 w4 : Option xV), v = (if I 150 28 = 0 ∨ c < I 150 32 then c else I 150 32) → xW d 255 67 [some (.inr (13, 0, 150, 0)), some (.inl c), some (.inl 0), w3, w4] [] (mj_up A 150 32 v) S Q := by
        intro v w3 w4 hv
        refine loop3 (mj_up A 150 32 v) ((hA.mo (fun a q => by omega)).mu (by omega) _ _) (fun k k1 k2 => by rw [mu_f (by omega), a1 k k1]) (by rw [mu_f (by omega)]; exact a31) (by rw [mj_up_s]; exact hv) (fun u u0 u1 => by rw [rd_mu (by omega)]; exact (a2 u u0 (by omega)).1) (fun u u0 u1 => by rw [rd_mu (by omega)]; exact (a2 u u0 (by omega)).2) (N 2).toNat 0 (by omega) (by omega) _ _ _ fr.refl (fun q q0 q1 => by omega) (fun q _ => ⟨rfl, rfl⟩) (by rw [rd_mu (by omega), hA.r (by omega)]) (by rw [rd_mu (by omega), hA.r (by omega)])
      refine x_hd false [11, 67] 40 ?_
      (repeat' (first | rw [e28] | rw [e32] | with_reducible assumption | with_reducible exact rfl | with_reducible exact trivial | (with_reducible (show (_ : Int) ≤ _); omega) | (with_reducible (show (_ : Int) < _); omega) | (with_reducible (show (_ : Nat) < _); omega) | (with_reducible (show (_ : Nat) ≤ _); omega) | with_reducible exact Or.inl rfl | with_reducible exact Or.inr rfl | with_reducible exact Or.inl trivial | with_reducible exact Or.inr trivial | (intro hz; exact absurd hz (by decide)) | (intro hz; exfalso; omega) | refine And.intro ?_ ?_ | intro _))
      · exact fin c _ _ (by rw [if_pos (by omega)])
      · exact fin (A 150 32) _ _ (by rw [if_neg (by omega), e32])
      · exact fin c _ _ (by rw [if_pos (by omega)])
    | succ m ih =>
      intro s s0 s1 A w3 w4 hA a1 a31 a2 a3
      have e28 : A 150 28 = I 150 28 := a1 28 (by omega)
      have e32 : A 150 32 = I 150 32 := a1 32 (by omega)
      have e155 : rd A 155 s = w s := by rw [hA.r (by omega)]; exact hr s s0 (by omega)
      have nxt : ∀ (x y : Int) (w3 w4 : Option xV), x = (if I 150 28 = 0 then w s else rd I 165 s) → y = (if I 150 28 = 0 ∨ c < I 150 32 then w s else rd I 166 s) → xW d 255 11 [some (.inr (13, 0, 150, 0)), some (.inl c), some (.inl (s + 1)), w3, w4] [] (up (up A 165 s x) 166 s y) S Q := by
        intro x y w3 w4 hx hy
        refine ih (s + 1) (by omega) (by omega) _ _ _ ((hA.up (by omega) _ _).up (by omega) _ _) (fun k hk => by rw [up_f (by omega), up_f (by omega)]; exact a1 k hk) (by rw [up_f (by omega), up_f (by omega)]; exact a31) (fun u u0 u1 => ?_) (fun u u0 => ?_)
        · rw [rd_uo (a := 166) (b := 165) (by omega), rd_up (by omega) (by omega), rd_up (by omega) (by omega), rd_uo (by omega)]
          by_cases e : u = s
          · rw [e, ru_s, ru_s]; exact ⟨hx, hy⟩
          · rw [ru_n e, ru_n e]; exact a2 u u0 (by omega)
        · rw [rd_uo (a := 166) (b := 165) (by omega), rd_up (by omega) (by omega), rd_up (by omega) (by omega), rd_uo (by omega), ru_n (by omega), ru_n (by omega)]
          exact a3 u (by omega)
      have b3 := a3 s (by omega)
      refine x_hd false [11, 67] 60 ?_
      (repeat' (first | simp (disch := omega) only [up_f, rd_uo] | rw [e28] | rw [e32] | rw [e155] | with_reducible assumption | with_reducible exact rfl | with_reducible exact trivial | (with_reducible (show (_ : Int) ≤ _); omega) | (with_reducible (show (_ : Int) < _); omega) | (with_reducible (show (_ : Nat) < _); omega) | (with_reducible (show (_ : Nat) ≤ _); omega) | with_reducible exact Or.inl rfl | with_reducible exact Or.inr rfl | with_reducible exact Or.inl trivial | with_reducible exact Or.inr trivial | (intro hz; exact absurd hz (by decide)) | (intro hz; exfalso; omega) | refine And.intro ?_ ?_ | intro _))
      · exact nxt _ _ _ _ (by rw [if_neg (by omega), b3.1]) (by rw [if_neg (by omega), b3.2])
      · exact nxt _ _ _ _ (by rw [if_neg (by omega), b3.1]) (by rw [if_pos (by omega)])
      · exact nxt _ _ _ _ (by rw [if_pos (by omega)]) (by rw [if_pos (by omega)])
  refine x_C false [.inr (13, 0, 150, 0)] [11] 30 hS ⟨xok_m hS, trivial⟩ ?_
  (repeat' (first | refine m_costNow hS (by rw [hN2]; exact hN) ?_ (w := w) (by rw [hN2]; exact hw) hr (by rw [hN2]; exact hc) ?_ | with_reducible assumption | with_reducible exact rfl | with_reducible exact trivial | (with_reducible (show (_ : Int) ≤ _); omega) | (with_reducible (show (_ : Int) < _); omega) | (with_reducible (show (_ : Nat) < _); omega) | (with_reducible (show (_ : Nat) ≤ _); omega) | with_reducible exact Or.inl rfl | with_reducible exact Or.inr rfl | with_reducible exact Or.inl trivial | with_reducible exact Or.inr trivial | (intro hz; exact absurd hz (by decide)) | (intro hz; exfalso; omega) | refine And.intro ?_ ?_ | intro _))
  · rename_i z
    rw [hN2, hcw]
    exact loop1 6 0 (by omega) (by omega) I _ _ fr.refl (fun _ _ => rfl) (by rw [if_neg z]) (fun u u0 u1 => by omega) (fun _ _ => ⟨rfl, rfl⟩)
  · rename_i z
    rw [hN2, hcw]
    exact loop1 6 0 (by omega) (by omega) (mj_up I 150 31 c) _ _ (fr.refl.mu (by omega) _ _) (fun k hk => mu_f (by omega)) (by rw [mj_up_s, if_pos z]) (fun u u0 u1 => by omega) (fun u _ => ⟨by rw [rd_mu (by omega)], by rw [rd_mu (by omega)]⟩)
