/-! keep, back -/
theorem sK_2 {b1 b2 k : Nat} {S T : mj_S} (h : sK b1 b2 k S T) : (∀ a, mj_tg T a = mj_tg S a) ∧ (∀ a, mj_ln T a = mj_ln S a) ∧ mj_nx T = mj_nx S ∧ mj_sl T = mj_sl S := by
  refine ⟨fun a => ?_, fun a => ?_, ?_, ?_⟩
  · unfold mj_tg; rw [h.1]
  · unfold mj_ln; rw [h.1]
  · unfold mj_nx; rw [h.1]
  · unfold mj_sl; rw [h.1]
theorem CbX_S {b1 b2 : Nat} {S T : mj_S} (hb1 : mB b1) (h : sK b1 b2 14 S T) {I J : mj_I} {x : Nat} {N : Int → Int} {t : Int} (hf : ∀ a, 181 ≤ a → J a = I a) (hC : CbX I S x N t) : CbX J T x N t := by
  obtain ⟨e1, e2, e3, _⟩ := sK_2 h
  unfold mB at hb1
  obtain ⟨x1, x2, x3, x4, x5, x6, k, n, y1, y2, y3, y4, y5, y6⟩ := hC
  have er : mj_rf T x 2 = mj_rf S x 2 := h.2.1 x 2 (by omega)
  refine ⟨x1, by rw [e3]; exact x2, by rw [e1]; exact x3, by rw [er]; exact x4, by rw [er, e3]; exact x5, by rw [er, e1]; exact x6, k, n, by rw [er, e2]; exact y1, y2, by rw [hf x x1]; exact y3, y4, by rw [hf x x1]; exact y5, fun j j0 j1 => ?_⟩
  rw [er, rd_oo (hf _ x4)]
  exact y6 j j0 j1
/-- the other book does not change -/
theorem Cb_S {b1 b2 : Nat} {S T : mj_S} (hb1 : mB b1) (h : sK b1 b2 14 S T) {I : mj_I} {b : Nat} (hb : mB b) (hne : b ≠ b1) {N : Int → Int} (hC : Cb I S b N) : Cb I T b N := by
  obtain ⟨cH, cP, cS, cR, cO, cL, cX, cl⟩ := hC
  refine ⟨cH, cP, cS, cR, cO, cL, fun t t0 t1 => ?_, cl⟩
  have er : mj_rf T (b + 4) t.toNat = mj_rf S (b + 4) t.toNat := h.2.1 _ _ (by unfold mB at hb hb1; omega)
  rw [er]
  exact CbX_S hb1 h (fun _ _ => rfl) (cX t t0 t1)
theorem RX_S {b1 b2 : Nat} {S T : mj_S} (hb1 : mB b1) (hb2 : mB b2) (h : sK b1 b2 14 S T) (hX : RX S) : RX T := by
  obtain ⟨e1, e2, e3, _⟩ := sK_2 h
  intro b t hb ht
  by_cases e : b = b1
  · have er : mj_rf T (b + 4) t = mj_rf S (b2 + 4) t := by rw [e]; exact h.2.2 t ht
    rw [er, e1, e3]
    exact hX b2 t hb2 ht
  · have er : mj_rf T (b + 4) t = mj_rf S (b + 4) t := h.2.1 _ _ (by unfold mB at hb hb1; omega)
    rw [er, e1, e3]
    exact hX b t hb ht
theorem Cb_tk {N : Int → Int} (hN : Inv N) {I J : mj_I} {S T : mj_S} {b1 b2 : Nat} (hb1 : mB b1) (hb2 : mB b2) (hC : Cb I S b2 N) (hsk : sK b1 b2 14 S T) (hf : fr (tbX b1) I J) (h1 : J b1 1 = I b2 1 ∧ J b1 3 = I b2 3 ∧ J b1 5 = I b2 5 ∧ J b1 7 = I b2 7 ∧ J b1 11 = I b2 11 ∧ J b1 13 = I b2 13 ∧ J b1 14 = I b2 14) (hP : ∀ (q : Int) (k : Nat), 0 ≤ q → q < 7 → k < 8 → J (b1 + 15 + q.toNat) k = I (b2 + 15 + q.toNat) k) (hSt : ∀ (q : Int) (k : Nat), 0 ≤ q → q < 6 → k < 4 → J (b1 + 22 + q.toNat) k = I (b2 + 22 + q.toNat) k) (hR : ∀ (q : Int) (k : Nat), 0 ≤ q → q < 12 → k < 4 → J (b1 + 28 + q.toNat) k = I (b2 + 28 + q.toNat) k)
    (h5 : ∀ j, 0 ≤ j → j < 3 → rd J (b1 + 5) j = rd I (b2 + 5) j) (h6 : ∀ j, 0 ≤ j → j < 6 → rd J (b1 + 6) j = rd I (b2 + 6) j ∧ rd J (b1 + 7) j = rd I (b2 + 7) j) (h8 : J (b1 + 8) 3 = I (b2 + 8) 3) (hL : ∀ j, 0 ≤ j → j < 30 → rd J (b1 + 9) j = rd I (b2 + 9) j ∧ rd J (b1 + 10) j = rd I (b2 + 10) j ∧ rd J (b1 + 11) j = rd I (b2 + 11) j) : Cb J T b1 N := by
  have hH := hN.1
  unfold InvH at hH
  obtain ⟨cH, cP, cS, cR, cO, cL, cX, l0, l1, l2⟩ := hC
  refine ⟨?_, fun p p0 p1 => ?_, fun s s0 s1 => ?_, fun r r0 r1 => ?_, fun o o0 o1 => ?_, fun l g0 g1 => ?_, fun t t0 t1 => ?_, ?_, ?_, ?_⟩
  · unfold CbH at cH ⊢
    rw [h1.2.2.2.2.2.2, h1.2.2.2.2.2.1, h1.1, h1.2.1, h1.2.2.1, h1.2.2.2.1, h1.2.2.2.2.1, h8]
    exact cH
  · have := cP p p0 p1
    unfold CbP at this ⊢
    rw [hP p 0 p0 (by omega) (by omega), hP p 1 p0 (by omega) (by omega), hP p 2 p0 (by omega) (by omega), hP p 3 p0 (by omega) (by omega), hP p 4 p0 (by omega) (by omega), hP p 5 p0 (by omega) (by omega), hP p 6 p0 (by omega) (by omega), hP p 7 p0 (by omega) (by omega)]
    exact this
  · have := cS s s0 s1
    unfold CbS at this ⊢
    rw [hSt s 0 s0 (by omega) (by omega), hSt s 1 s0 (by omega) (by omega), hSt s 2 s0 (by omega) (by omega), hSt s 3 s0 (by omega) (by omega)]
    exact this
  · have := cR r r0 r1
    unfold CbR at this ⊢
    rw [hR r 0 r0 (by omega) (by omega), hR r 1 r0 (by omega) (by omega), hR r 2 r0 (by omega) (by omega), hR r 3 r0 (by omega) (by omega)]
    exact this
  · have := cO o o0 o1
    unfold CbO at this ⊢
    rw [(h6 o o0 (by omega)).1, (h6 o o0 (by omega)).2]
    exact this
  · have := cL l g0 g1
    unfold CbL at this ⊢
    rw [(hL l g0 (by omega)).1, (hL l g0 (by omega)).2.1, (hL l g0 (by omega)).2.2]
    exact this
  · have er : mj_rf T (b1 + 4) t.toNat = mj_rf S (b2 + 4) t.toNat := hsk.2.2 _ (by omega)
    rw [er]
    exact CbX_S hb1 hsk (fun a ha => hf a (by unfold mB at hb1; unfold tbX; omega)) (cX t t0 t1)
  · rw [h5 0 (by omega) (by omega)]; exact l0
  · rw [h5 1 (by omega) (by omega)]; exact l1
  · rw [h5 2 (by omega) (by omega)]; exact l2
/-- 187 Book.takeFrom -/
theorem c_takeB {d : Nat} {I : mj_I} {S : mj_S} {Q : mj_Q} (hS : mk_Sh S) {b1 b2 : Nat} (hb1 : mB b1) (hb2 : mB b2) (hne : b1 ≠ b2) {N : Int → Int} (hN : Inv N) (hC : Cb I S b2 N) (hX : RX S) (hd : 1 < d)
    (h : ∀ J T, sK b1 b2 14 S T → fr (tbX b1) I J → Cb J T b1 N → Q none J T) : mj_C d 187 [.inr b1, .inr b2] I S Q := by
  have hb1' := hb1
  have hb2' := hb2
  unfold mB at hb1' hb2'
  have tail : ∀ (J : mj_I) (T : mj_S), sK b1 b2 14 S T → tb b1 b2 I J 7 6 12 → xW d 187 91 [some (.inr (2, b1, b1, 0)), some (.inr (2, b2, b2, 0)), some (.inl 14)] [] J T Q := by
    intro J T hT hJ
    have hST := sK_Sh hb1 hT hS
    refine x_hd false [] 60 ?_
    (repeat' (first | refine c_tkL hST hb1 hb2 hne (fun K hK k8 kL => ?_) | with_reducible assumption | with_reducible exact rfl | with_reducible exact trivial | (with_reducible (show (_ : Int) ≤ _); omega) | (with_reducible (show (_ : Int) < _); omega) | (with_reducible (show (_ : Nat) < _); omega) | (with_reducible (show (_ : Nat) ≤ _); omega) | with_reducible exact Or.inl rfl | with_reducible exact Or.inr rfl | with_reducible exact Or.inl trivial | with_reducible exact Or.inr trivial | (intro hz; exact absurd hz (by decide)) | (intro hz; exfalso; omega) | refine And.intro ?_ ?_ | intro _))
    obtain ⟨q1, q2, q3, q4, q5⟩ := hJ
    have eM : ∀ c, ¬ c = b1 + 5 → ¬ c = b1 + 6 → ¬ c = b1 + 7 → (mj_cp (mj_cp (mj_cp J (b2 + 5) (Int.toNat 0) (b1 + 5) (Int.toNat 0) (Int.toNat 3)) (b2 + 6) (Int.toNat 0) (b1 + 6) (Int.toNat 0) (Int.toNat 6)) (b2 + 7) (Int.toNat 0) (b1 + 7) (Int.toNat 0) (Int.toNat 6)) c = J c := fun c n1 n2 n3 => by rw [cpg_o n3, cpg_o n2, cpg_o n1]
    have hf : fr (tbX b1) I K := fun c hc => by
      rw [hK c (by unfold tbX at hc; omega), eM c (by unfold tbX at hc; omega) (by unfold tbX at hc; omega) (by unfold tbX at hc; omega)]
      exact q1 c hc
    have kf : ∀ c k, (c = b1 ∨ (b1 + 15 ≤ c ∧ c ≤ b1 + 39)) → K c k = J c k := fun c k hc => by rw [hK.f (by omega), eM c (by omega) (by omega) (by omega)]
    have jb : ∀ c, b2 ≤ c → c ≤ b2 + 39 → J c = I c := fun c c0 c1 => q1 c (by unfold tbX; omega)
    refine h K T hT hf (Cb_tk hN hb1 hb2 hC hT hf ?_ (fun q k q0 q1' hk => ?_) (fun q k q0 q1' hk => ?_) (fun q k q0 q1' hk => ?_) (fun j j0 j1 => ?_) (fun j j0 j1 => ⟨?_, ?_⟩) ?_ (fun j j0 j1 => ?_))
    · rw [kf b1 1 (by omega), kf b1 3 (by omega), kf b1 5 (by omega), kf b1 7 (by omega), kf b1 11 (by omega), kf b1 13 (by omega), kf b1 14 (by omega)]
      exact q2
    · rw [kf _ _ (by omega)]; exact q3 q k q0 q1' hk
    · rw [kf _ _ (by omega)]; exact q4 q k q0 q1' hk
    · rw [kf _ _ (by omega)]; exact q5 q k q0 q1' hk
    · rw [hK.r (by omega), rd_oo (cpg_o (by omega)), rd_oo (cpg_o (by omega)), cpy_rd (by omega) (by omega) (by omega) (by omega) (by omega) j0 (by omega), if_pos (by omega), show (0 : Int) + (j - 0) = j by omega, rd_oo (jb _ (by omega) (by omega))]
    · rw [hK.r (by omega), rd_oo (cpg_o (by omega)), cpy_rd (by omega) (by omega) (by omega) (by omega) (by omega) j0 (by omega), if_pos (by omega), show (0 : Int) + (j - 0) = j by omega, rd_oo (cpg_o (by omega)), rd_oo (jb _ (by omega) (by omega))]
    · rw [hK.r (by omega), cpy_rd (by omega) (by omega) (by omega) (by omega) (by omega) j0 (by omega), if_pos (by omega), show (0 : Int) + (j - 0) = j by omega, rd_oo (cpg_o (by omega)), rd_oo (cpg_o (by omega)), rd_oo (jb _ (by omega) (by omega))]
    · rw [k8, eM _ (by omega) (by omega) (by omega), jb _ (by omega) (by omega)]
    · have := kL j j0 j1
      rw [rd_oo (eM (b2 + 9) (by omega) (by omega) (by omega)), rd_oo (eM (b2 + 10) (by omega) (by omega) (by omega)), rd_oo (eM (b2 + 11) (by omega) (by omega) (by omega)), rd_oo (jb (b2 + 9) (by omega) (by omega)), rd_oo (jb (b2 + 10) (by omega) (by omega)), rd_oo (jb (b2 + 11) (by omega) (by omega))] at this
      exact this
  have loop3 : ∀ (m : Nat) (r : Int), 0 ≤ r → r + m = 12 → ∀ (J : mj_I), tb b1 b2 I J 7 6 r → xW d 187 62 [some (.inr (2, b1, b1, 0)), some (.inr (2, b2, b2, 0)), some (.inl r)] [] J S Q := by
    intro m
    induction m with
    | zero =>
      intro r r0 r1 J hJ
      have e : r = 12 := by omega
      subst e
      refine x_hd false [62, 78] 30 ?_
      (repeat' (first | with_reducible assumption | with_reducible exact rfl | with_reducible exact trivial | (with_reducible (show (_ : Int) ≤ _); omega) | (with_reducible (show (_ : Int) < _); omega) | (with_reducible (show (_ : Nat) < _); omega) | (with_reducible (show (_ : Nat) ≤ _); omega) | with_reducible exact Or.inl rfl | with_reducible exact Or.inr rfl | with_reducible exact Or.inl trivial | with_reducible exact Or.inr trivial | (intro hz; exact absurd hz (by decide)) | (intro hz; exfalso; omega) | refine And.intro ?_ ?_ | intro _))
      exact c_tkX hS hb1 hb2 hne hX (fun T hT => tail J T hT hJ)
    | succ m ih =>
      intro r r0 r1 J hJ
      refine x_hd false [62, 78] 30 ?_
      (repeat' (first | refine c_tkRu hS _ _ (tg_Ru hS hb1 (by omega) (by omega)) (tg_Ru hS hb2 (by omega) (by omega)) (by omega) (fun K hK hk => ?_) | with_reducible assumption | with_reducible exact rfl | with_reducible exact trivial | (with_reducible (show (_ : Int) ≤ _); omega) | (with_reducible (show (_ : Int) < _); omega) | (with_reducible (show (_ : Nat) < _); omega) | (with_reducible (show (_ : Nat) ≤ _); omega) | with_reducible exact Or.inl rfl | with_reducible exact Or.inr rfl | with_reducible exact Or.inl trivial | with_reducible exact Or.inr trivial | (intro hz; exact absurd hz (by decide)) | (intro hz; exfalso; omega) | refine And.intro ?_ ?_ | intro _))
      exact ih (r + 1) (by omega) (by omega) K (tb_R hb1 hb2 hne hJ (by omega) hK hk)
  have loop2 : ∀ (m : Nat) (s : Int), 0 ≤ s → s + m = 6 → ∀ (J : mj_I), tb b1 b2 I J 7 s 0 → xW d 187 46 [some (.inr (2, b1, b1, 0)), some (.inr (2, b2, b2, 0)), some (.inl s)] [] J S Q := by
    intro m
    induction m with
    | zero =>
      intro s s0 s1 J hJ
      have e : s = 6 := by omega
      subst e
      refine x_hd false [46, 62] 30 ?_
      (repeat' (first | with_reducible assumption | with_reducible exact rfl | with_reducible exact trivial | (with_reducible (show (_ : Int) ≤ _); omega) | (with_reducible (show (_ : Int) < _); omega) | (with_reducible (show (_ : Nat) < _); omega) | (with_reducible (show (_ : Nat) ≤ _); omega) | with_reducible exact Or.inl rfl | with_reducible exact Or.inr rfl | with_reducible exact Or.inl trivial | with_reducible exact Or.inr trivial | (intro hz; exact absurd hz (by decide)) | (intro hz; exfalso; omega) | refine And.intro ?_ ?_ | intro _))
      exact loop3 12 0 (by omega) (by omega) J hJ
    | succ m ih =>
      intro s s0 s1 J hJ
      refine x_hd false [46, 62] 30 ?_
      (repeat' (first | refine c_tkSt hS _ _ (tg_St hS hb1 (by omega) (by omega)) (tg_St hS hb2 (by omega) (by omega)) (by omega) (fun K hK hk => ?_) | with_reducible assumption | with_reducible exact rfl | with_reducible exact trivial | (with_reducible (show (_ : Int) ≤ _); omega) | (with_reducible (show (_ : Int) < _); omega) | (with_reducible (show (_ : Nat) < _); omega) | (with_reducible (show (_ : Nat) ≤ _); omega) | with_reducible exact Or.inl rfl | with_reducible exact Or.inr rfl | with_reducible exact Or.inl trivial | with_reducible exact Or.inr trivial | (intro hz; exact absurd hz (by decide)) | (intro hz; exfalso; omega) | refine And.intro ?_ ?_ | intro _))
      exact ih (s + 1) (by omega) (by omega) K (tb_S hb1 hb2 hne hJ (by omega) hK hk)
  have loop1 : ∀ (m : Nat) (p : Int), 0 ≤ p → p + m = 7 → ∀ (J : mj_I), tb b1 b2 I J p 0 0 → xW d 187 30 [some (.inr (2, b1, b1, 0)), some (.inr (2, b2, b2, 0)), some (.inl p)] [] J S Q := by
    intro m
    induction m with
    | zero =>
      intro p p0 p1 J hJ
      have e : p = 7 := by omega
      subst e
      refine x_hd false [30, 46] 30 ?_
      (repeat' (first | with_reducible assumption | with_reducible exact rfl | with_reducible exact trivial | (with_reducible (show (_ : Int) ≤ _); omega) | (with_reducible (show (_ : Int) < _); omega) | (with_reducible (show (_ : Nat) < _); omega) | (with_reducible (show (_ : Nat) ≤ _); omega) | with_reducible exact Or.inl rfl | with_reducible exact Or.inr rfl | with_reducible exact Or.inl trivial | with_reducible exact Or.inr trivial | (intro hz; exact absurd hz (by decide)) | (intro hz; exfalso; omega) | refine And.intro ?_ ?_ | intro _))
      exact loop2 6 0 (by omega) (by omega) J hJ
    | succ m ih =>
      intro p p0 p1 J hJ
      refine x_hd false [30, 46] 30 ?_
      (repeat' (first | refine c_tkP hS _ _ (tg_P hS hb1 (by omega) (by omega)) (tg_P hS hb2 (by omega) (by omega)) (by omega) (fun K hK hk => ?_) | with_reducible assumption | with_reducible exact rfl | with_reducible exact trivial | (with_reducible (show (_ : Int) ≤ _); omega) | (with_reducible (show (_ : Int) < _); omega) | (with_reducible (show (_ : Nat) < _); omega) | (with_reducible (show (_ : Nat) ≤ _); omega) | with_reducible exact Or.inl rfl | with_reducible exact Or.inr rfl | with_reducible exact Or.inl trivial | with_reducible exact Or.inr trivial | (intro hz; exact absurd hz (by decide)) | (intro hz; exfalso; omega) | refine And.intro ?_ ?_ | intro _))
      exact ih (p + 1) (by omega) (by omega) K (tb_P hb1 hb2 hne hJ (by omega) hK hk)
  refine x_C false [.inr (2, b1, b1, 0), .inr (2, b2, b2, 0)] [30] 60 hS ⟨xok_b hS hb1, xok_b hS hb2, trivial⟩ ?_
  refine loop1 7 0 (by omega) (by omega) _ ⟨?_, ?_, fun q k q0 q1 => by omega, fun q k q0 q1 => by omega, fun q k q0 q1 => by omega⟩
  · exact (((((((fr.refl (X := tbX b1)).mu (Or.inl rfl) _ _).mu (Or.inl rfl) _ _).mu (Or.inl rfl) _ _).mu (Or.inl rfl) _ _).mu (Or.inl rfl) _ _).mu (Or.inl rfl) _ _).mu (Or.inl rfl) _ _
  · simp (disch := omega) only [mj_up_s, mu_f]
    exact ⟨trivial, trivial, trivial, trivial, trivial, trivial, trivial⟩
theorem rd_out {I : mj_I} {a : Nat} {j : Int} (h : ¬ (0 ≤ j ∧ j < 1610)) : rd I a j = 0 := if_neg h
/-- 294 copyAll -/
theorem m_copyAll {d : Nat} {I : mj_I} {S : mj_S} {Q : mj_Q} (hS : mk_Sh S) (a b : Nat) (ha : xok S (21, 0, a, 1610)) (hb : xok S (21, 0, b, 1610)) (hne : ¬ a = b) (h : ∀ J, fr (fun c => c = b) I J → rd J b = rd I a → Q none J S) : mj_C d 294 [.inr a, .inr b] I S Q := by
  have loop : ∀ (m : Nat) (k : Int), 0 ≤ k → k + m = 1610 → ∀ (J : mj_I), fr (fun c => c = b) I J → (∀ q, 0 ≤ q → q < k → rd J b q = rd I a q) → xW d 294 2 [some (.inr (21, 0, a, 1610)), some (.inr (21, 0, b, 1610)), some (.inl k)] [] J S Q := by
    intro m
    induction m with
    | zero =>
      intro k k0 k1 J hJ hr
      refine x_hd false [2] 30 ?_
      (repeat' (first | with_reducible assumption | with_reducible exact rfl | with_reducible exact trivial | (with_reducible (show (_ : Int) ≤ _); omega) | (with_reducible (show (_ : Int) < _); omega) | (with_reducible (show (_ : Nat) < _); omega) | (with_reducible (show (_ : Nat) ≤ _); omega) | with_reducible exact Or.inl rfl | with_reducible exact Or.inr rfl | with_reducible exact Or.inl trivial | with_reducible exact Or.inr trivial | (intro hz; exact absurd hz (by decide)) | (intro hz; exfalso; omega) | refine And.intro ?_ ?_ | intro _))
      refine h J hJ (funext (fun q => ?_))
      by_cases e : 0 ≤ q ∧ q < 1610
      · exact hr q e.1 (by omega)
      · rw [rd_out e, rd_out e]
    | succ m ih =>
      intro k k0 k1 J hJ hr
      refine x_hd false [2] 30 ?_
      (repeat' (first | with_reducible assumption | with_reducible exact rfl | with_reducible exact trivial | (with_reducible (show (_ : Int) ≤ _); omega) | (with_reducible (show (_ : Int) < _); omega) | (with_reducible (show (_ : Nat) < _); omega) | (with_reducible (show (_ : Nat) ≤ _); omega) | with_reducible exact Or.inl rfl | with_reducible exact Or.inr rfl | with_reducible exact Or.inl trivial | with_reducible exact Or.inr trivial | (intro hz; exact absurd hz (by decide)) | (intro hz; exfalso; omega) | refine And.intro ?_ ?_ | intro _))
      refine ih (k + 1) (by omega) (by omega) _ (hJ.up rfl _ _) (fun q q0 q1 => ?_)
      rw [rd_up (by omega) (by omega)]
      by_cases e : q = k
      · rw [e, ru_s, hJ.r hne]
      · rw [ru_n e]; exact hr q q0 (by omega)
  refine x_C false [.inr (21, 0, a, 1610), .inr (21, 0, b, 1610)] [2] 30 hS ⟨ha, hb, trivial⟩ ?_
  (repeat' (first | with_reducible assumption | with_reducible exact rfl | with_reducible exact trivial | (with_reducible (show (_ : Int) ≤ _); omega) | (with_reducible (show (_ : Int) < _); omega) | (with_reducible (show (_ : Nat) < _); omega) | (with_reducible (show (_ : Nat) ≤ _); omega) | with_reducible exact Or.inl rfl | with_reducible exact Or.inr rfl | with_reducible exact Or.inl trivial | with_reducible exact Or.inr trivial | (intro hz; exact absurd hz (by decide)) | (intro hz; exfalso; omega) | refine And.intro ?_ ?_ | intro _))
  exact loop 1610 0 (by omega) (by omega) I fr.refl (fun q q0 q1 => by omega)
