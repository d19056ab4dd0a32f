/-! the finder is opened -/
theorem prQ_s {N : Int → Int} {r s t p q : Int} (h0 : 0 ≤ r) (h : N (88 + 4 * r + 0) = 0 ∨ N (88 + 4 * r + 0) = 5) : prQ N (r + 1) s t p q ↔ prQ N r s t p q := by
  refine ⟨fun a i i0 i1 => a i i0 (by omega), fun a i i0 i1 z0 z5 => ?_⟩
  by_cases e : i = r
  · subst e
    omega
  · exact a i i0 (by omega) z0 z5
theorem FOk_0 {N : Int → Int} {r : Int} {I : mj_I} (hF : FOk N r I) (r0 : 0 ≤ r) (h : N (88 + 4 * r + 0) = 0) : FOk N (r + 1) I := by
  obtain ⟨f1, f2, f3, f4, f5⟩ := hF
  have ne : ∀ i, i < r + 1 → N (88 + 4 * i + 0) ≠ 0 → i < r := by
    intro i i1 z
    by_cases e : i = r
    · subst e
      exact absurd h z
    · omega
  refine ⟨fun s t p q a1 a2 a3 a4 a5 a6 a7 a8 => by rw [prQ_s r0 (Or.inl h)]; exact f1 s t p q a1 a2 a3 a4 a5 a6 a7 a8, by omega, fun m m0 m1 => ?_, fun i i0 i1 h5 => f4 i i0 (ne i i1 (by omega)) h5, fun i i0 i1 h0 h5 => f5 i i0 (ne i i1 h0) h0 h5⟩
  obtain ⟨i, i0, i1, z⟩ := f3 m m0 m1
  exact ⟨i, i0, by omega, z⟩
theorem FOk_m {N : Int → Int} {r : Int} {I J : mj_I} (hF : FOk N r I) (r0 : 0 ≤ r ∧ r < 12) (h : N (88 + 4 * r + 0) = 5) (h9 : J 101 9 = I 101 9 + 1) (h10 : J 101 10 = I 101 10) (e4 : rd J 104 = rd I 104) (e5 : rd J 105 = ru (rd I 105) (I 101 9) (lo1 N r)) (e6 : rd J 106 = ru (rd I 106) (I 101 9) (hi1 N r)) (e7 : rd J 107 = ru (rd I 107) (I 101 9) (N (88 + 4 * r + 3))) : FOk N (r + 1) J := by
  obtain ⟨f1, f2, f3, f4, f5⟩ := hF
  unfold FOk
  rw [h9, h10, e4, e5, e6, e7]
  refine ⟨fun s t p q a1 a2 a3 a4 a5 a6 a7 a8 => by rw [prQ_s r0.1 (Or.inr h)]; exact f1 s t p q a1 a2 a3 a4 a5 a6 a7 a8, by omega, fun m m0 m1 => ?_, fun i i0 i1 h5 => ?_, fun i i0 i1 z0 z5 => ?_⟩
  · by_cases e : m = I 101 9
    · subst e
      exact ⟨r, r0.1, by omega, h, ru_s, ru_s, ru_s⟩
    · obtain ⟨i, i0, i1, i5, z⟩ := f3 m m0 (by omega)
      rw [ru_n e, ru_n e, ru_n e]
      exact ⟨i, i0, by omega, i5, z⟩
  · by_cases e : i = r
    · subst e
      exact ⟨I 101 9, f2.1, by omega, ru_s, ru_s, ru_s⟩
    · obtain ⟨m, m0, m1, z⟩ := f4 i i0 (by omega) h5
      refine ⟨m, m0, by omega, ?_⟩
      rw [ru_n (by omega), ru_n (by omega), ru_n (by omega)]
      exact z
  · by_cases e : i = r
    · subst e
      exact absurd h z5
    · exact f5 i i0 (by omega) z0 z5
/-- 117 readMany -/
theorem c_readMany {d : Nat} {I : mj_I} {S : mj_S} {Q : mj_Q} (hS : mk_Sh S) {b : Nat} (hb : mB b) {N : Int → Int} (hN : Inv N) (hC : Cb I S b N) (r : Int) (hr : 0 ≤ r ∧ r < N 4) (hd : 0 < d) (h5 : N (88 + 4 * r + 0) = 5) (hF : FOk N r I)
    (h : ∀ J, fr (fun a => 101 ≤ a ∧ a ≤ 107) I J → (∀ k, k ≠ 9 → J 101 k = I 101 k) → rd J 102 = rd I 102 → FOk N (r + 1) J → Q none J S) : mj_C d 117 [.inr 101, .inr (b + 28 + r.toNat)] I S Q := by
  have hH := hN.1
  have hR := hN.2.2.2.1 r hr.1 hr.2
  have hCR := hC.2.2.2.1 r hr.1 hr.2
  unfold InvH at hH
  unfold InvR at hR
  unfold CbR at hCR
  have hb61 : b ≤ 61 := by unfold mB at hb; omega
  have hF9 := hF.2.1
  have htg := tg_Ru hS hb (p := r) (by omega) (by omega)
  have hlo : lo1 N r = min (I (b + 28 + r.toNat) 1) (I (b + 28 + r.toNat) 2) := by rw [hCR.2.1, hCR.2.2.1]; rfl
  have hhi : hi1 N r = max (I (b + 28 + r.toNat) 1) (I (b + 28 + r.toNat) 2) := by rw [hCR.2.1, hCR.2.2.1]; rfl
  refine x_C false [.inr (7, 0, 101, 0), .inr (6, b, b + 28 + r.toNat, 0)] [] 40 hS ⟨xok_fi hS, xok_Ru hS hb hr.1 (by omega), trivial⟩ ?_
  (repeat' (first | simp (disch := omega) only [up_f] | rw [← hhi] | rw [← hlo] | refine c_last _ htg ?_ | refine c_first _ htg ?_ | with_reducible assumption | with_reducible exact rfl | with_reducible exact trivial | (with_reducible (show (_ : Int) ≤ _); omega) | (with_reducible (show (_ : Int) < _); omega) | (with_reducible (show (_ : Nat) < _); omega) | (with_reducible (show (_ : Nat) ≤ _); omega) | with_reducible exact Or.inl rfl | with_reducible exact Or.inr rfl | with_reducible exact Or.inl trivial | with_reducible exact Or.inr trivial | (intro hz; exact absurd hz (by decide)) | (intro hz; exfalso; omega) | refine And.intro ?_ ?_ | intro _))
  refine h _ ?_ (fun k hk => ?_) ?_ (FOk_m hF (by omega) h5 ?_ ?_ ?_ ?_ ?_ ?_)
  · exact (((fr.refl.up (by omega) _ _).up (by omega) _ _).up (by omega) _ _).mu (by omega) _ _
  · simp (disch := omega) only [mu_f, up_f]
  all_goals (simp (disch := omega) only [rd_mu, rd_up, rd_uo, mu_f, up_f, mj_up_s, hCR.2.2.2])
theorem mt_off {x c : Int} {q : Int} (hc : 0 ≤ c ∧ c < 7) (hq : 0 ≤ q ∧ q < 7) : mt (mj_and x (mj_xor (mj_shl 1 c) (-1))) q.toNat = true ↔ mt x q.toNat = true ∧ q ≠ c := by
  rw [mt_and, mt_not _ (by omega), mt_one (by omega) (by omega), Bool.and_eq_true]
  by_cases e : q = c
  · rw [decide_eq_true (by omega)]
    exact ⟨fun z => absurd z.2 (by decide), fun z => absurd e z.2⟩
  · rw [decide_eq_false (by omega)]
    exact ⟨fun z => ⟨z.1, e⟩, fun z => ⟨z.1, rfl⟩⟩
theorem fitU {I : mj_I} {o u a c : Int} (ho : 0 ≤ o ∧ o < 6) (hu : 0 ≤ u ∧ u < 6) (hne : o ≠ u) (ha : 0 ≤ a ∧ a < 7) (hc : 0 ≤ c ∧ c < 7) {x1 x2 : Int} (e1 : x1 = mj_and (rd I 104 ((o * 6 + u) * 7 + a)) (mj_xor (mj_shl 1 c) (-1))) (e2 : x2 = mj_and (rd I 104 ((u * 6 + o) * 7 + c)) (mj_xor (mj_shl 1 a) (-1)))
    {s t p q : Int} (hs : 0 ≤ s ∧ s < 6) (ht : 0 ≤ t ∧ t < 6) (hp : 0 ≤ p ∧ p < 7) (hq : 0 ≤ q ∧ q < 7) : mt (rd (up (up I 104 ((o * 6 + u) * 7 + a) x1) 104 ((u * 6 + o) * 7 + c) x2) 104 ((s * 6 + t) * 7 + p)) q.toNat = true ↔ mt (rd I 104 ((s * 6 + t) * 7 + p)) q.toNat = true ∧ ¬ (s = o ∧ t = u ∧ p = a ∧ q = c) ∧ ¬ (s = u ∧ t = o ∧ p = c ∧ q = a) := by
  rw [rd_up (by omega) (by omega), rd_up (by omega) (by omega)]
  by_cases h2 : s = u ∧ t = o ∧ p = c
  · obtain ⟨rfl, rfl, rfl⟩ := h2
    rw [ru_s, e2, mt_off ha hq]
    exact ⟨fun z => ⟨z.1, by omega, by omega⟩, fun z => ⟨z.1, by omega⟩⟩
  · rw [ru_n (by omega)]
    by_cases h1 : s = o ∧ t = u ∧ p = a
    · obtain ⟨rfl, rfl, rfl⟩ := h1
      rw [ru_s, e1, mt_off hc hq]
      exact ⟨fun z => ⟨z.1, by omega, by omega⟩, fun z => ⟨z.1, by omega⟩⟩
    · rw [ru_n (by omega)]
      exact ⟨fun z => ⟨z, by omega, by omega⟩, fun z => z.1⟩
/-- rule r is read for the pairs in D -/
def prD (N : Int → Int) (r : Int) (D : Int → Int → Prop) (s t p q : Int) : Prop := prQ N r s t p q ∧ (N (88 + 4 * r + 1) = s ∧ N (88 + 4 * r + 2) = t → D p q → okP N (N (88 + 4 * r + 0)) (N (88 + 4 * r + 3)) p q) ∧ (N (88 + 4 * r + 2) = s ∧ N (88 + 4 * r + 1) = t → D q p → okP N (N (88 + 4 * r + 0)) (N (88 + 4 * r + 3)) q p)
def ftD (N : Int → Int) (r : Int) (D : Int → Int → Prop) (I : mj_I) : Prop := ∀ s t p q, 0 ≤ s → s < 6 → 0 ≤ t → t < 6 → 0 ≤ p → p < N 2 → 0 ≤ q → q < N 2 → (mt (rd I 104 ((s * 6 + t) * 7 + p)) q.toNat = true ↔ prD N r D s t p q)
theorem ftD_c {N : Int → Int} {r : Int} {D D' : Int → Int → Prop} {I : mj_I} (h : ftD N r D I) (hD : ∀ p q, 0 ≤ p → p < N 2 → 0 ≤ q → q < N 2 → (D p q ↔ D' p q)) : ftD N r D' I := by
  intro s t p q a1 a2 a3 a4 a5 a6 a7 a8
  rw [h s t p q a1 a2 a3 a4 a5 a6 a7 a8]
  unfold prD
  rw [hD p q a5 a6 a7 a8, hD q p a7 a8 a5 a6]
theorem ftD_ok {N : Int → Int} {r : Int} {D : Int → Int → Prop} {I : mj_I} {a c : Int} (h : ftD N r D I) (hok : okP N (N (88 + 4 * r + 0)) (N (88 + 4 * r + 3)) a c) : ftD N r (fun x y => D x y ∨ (x = a ∧ y = c)) I := by
  intro s t p q a1 a2 a3 a4 a5 a6 a7 a8
  rw [h s t p q a1 a2 a3 a4 a5 a6 a7 a8]
  refine ⟨fun z => ⟨z.1, fun y d => ?_, fun y d => ?_⟩, fun z => ⟨z.1, fun y d => z.2.1 y (Or.inl d), fun y d => z.2.2 y (Or.inl d)⟩⟩
  · rcases d with d | ⟨d1, d2⟩
    · exact z.2.1 y d
    · rw [d1, d2]; exact hok
  · rcases d with d | ⟨d1, d2⟩
    · exact z.2.2 y d
    · rw [d1, d2]; exact hok
theorem ftD_no {N : Int → Int} {r : Int} {D : Int → Int → Prop} {I J : mj_I} {a c : Int} (h : ftD N r D I) (hok : ¬ okP N (N (88 + 4 * r + 0)) (N (88 + 4 * r + 3)) a c) (hJ : ∀ s t p q, 0 ≤ s → s < 6 → 0 ≤ t → t < 6 → 0 ≤ p → p < N 2 → 0 ≤ q → q < N 2 → (mt (rd J 104 ((s * 6 + t) * 7 + p)) q.toNat = true ↔ mt (rd I 104 ((s * 6 + t) * 7 + p)) q.toNat = true ∧ ¬ (s = N (88 + 4 * r + 1) ∧ t = N (88 + 4 * r + 2) ∧ p = a ∧ q = c) ∧ ¬ (s = N (88 + 4 * r + 2) ∧ t = N (88 + 4 * r + 1) ∧ p = c ∧ q = a))) : ftD N r (fun x y => D x y ∨ (x = a ∧ y = c)) J := by
  intro s t p q a1 a2 a3 a4 a5 a6 a7 a8
  rw [hJ s t p q a1 a2 a3 a4 a5 a6 a7 a8, h s t p q a1 a2 a3 a4 a5 a6 a7 a8]
  constructor
  · intro ⟨z, n1, n2⟩
    refine ⟨z.1, fun y d => ?_, fun y d => ?_⟩
    · rcases d with d | ⟨d1, d2⟩
      · exact z.2.1 y d
      · exact absurd ⟨y.1.symm, y.2.symm, d1, d2⟩ n1
    · rcases d with d | ⟨d1, d2⟩
      · exact z.2.2 y d
      · exact absurd ⟨y.1.symm, y.2.symm, d2, d1⟩ n2
  · intro z
    refine ⟨⟨z.1, fun y d => z.2.1 y (Or.inl d), fun y d => z.2.2 y (Or.inl d)⟩, fun ⟨e1, e2, e3, e4⟩ => ?_, fun ⟨e1, e2, e3, e4⟩ => ?_⟩
    · have := z.2.1 ⟨e1.symm, e2.symm⟩ (Or.inr ⟨e3, e4⟩)
      rw [e3, e4] at this
      exact hok this
    · have := z.2.2 ⟨e1.symm, e2.symm⟩ (Or.inr ⟨e4, e3⟩)
      rw [e3, e4] at this
      exact hok this
theorem FOk_p {N : Int → Int} {r : Int} {I J : mj_I} (hF : FOk N r I) (r0 : 0 ≤ r ∧ r < 12) (h0 : N (88 + 4 * r + 0) ≠ 0) (h5 : N (88 + 4 * r + 0) ≠ 5) (hl : 0 ≤ lo1 N r ∧ lo1 N r < 6) (hlr : ∀ i, 0 ≤ i → i < r → 0 ≤ lo1 N i ∧ lo1 N i < 6) (hft : ftD N r (fun _ _ => True) J) (h9 : J 101 9 = I 101 9) (h10 : J 101 10 = mj_or (I 101 10) (mj_shl 1 (lo1 N r))) (e5 : rd J 105 = rd I 105) (e6 : rd J 106 = rd I 106) (e7 : rd J 107 = rd I 107) : FOk N (r + 1) J := by
  obtain ⟨f1, f2, f3, f4, f5⟩ := hF
  unfold FOk
  rw [h9, h10, e5, e6, e7]
  refine ⟨fun s t p q a1 a2 a3 a4 a5 a6 a7 a8 => ?_, by omega, fun m m0 m1 => ?_, fun i i0 i1 z5 => ?_, fun i i0 i1 z0 z5 => ?_⟩
  · rw [hft s t p q a1 a2 a3 a4 a5 a6 a7 a8]
    refine ⟨fun z i i0 i1 y0 y5 => ?_, fun z => ⟨fun i i0 i1 => z i i0 (by omega), fun y _ => (z r r0.1 (by omega) h0 h5).1 y, fun y _ => (z r r0.1 (by omega) h0 h5).2 y⟩⟩
    by_cases e : i = r
    · subst e
      exact ⟨fun y => z.2.1 y trivial, fun y => z.2.2 y trivial⟩
    · exact z.1 i i0 (by omega) y0 y5
  · obtain ⟨i, i0, i1, z⟩ := f3 m m0 m1
    exact ⟨i, i0, by omega, z⟩
  · by_cases e : i = r
    · subst e
      exact absurd z5 h5
    · exact f4 i i0 (by omega) z5
  · rw [mt_or]
    by_cases e : i = r
    · subst e
      rw [mt_one (by omega) (by omega), decide_eq_true (by omega), Bool.or_true]
    · rw [f5 i i0 (by omega) z0 z5]
      rfl
/-- 118 readPair -/
theorem c_readPair {d : Nat} {I : mj_I} {S : mj_S} {Q : mj_Q} (hS : mk_Sh S) {b : Nat} (hb : mB b) {N : Int → Int} (hN : Inv N) (hC : Cb I S b N) (r : Int) (hd : 0 < d) (hr : 0 ≤ r ∧ r < N 4) (h0 : N (88 + 4 * r + 0) ≠ 0) (h5 : N (88 + 4 * r + 0) ≠ 5) (hF : FOk N r I) (hp0 : I 101 0 = N 2)
    (h : ∀ J, fr (fun a => 101 ≤ a ∧ a ≤ 107) I J → (∀ k, k ≠ 10 → J 101 k = I 101 k) → rd J 102 = rd I 102 → FOk N (r + 1) J → Q none J S) : mj_C d 118 [.inr 101, .inr (b + 28 + r.toNat), .inr (b + 1)] I S Q := by
  have hH := hN.1
  have hR := hN.2.2.2.1 r hr.1 hr.2
  have hCR := hC.2.2.2.1 r hr.1 hr.2
  unfold InvH at hH
  unfold InvR at hR
  unfold CbR at hCR
  have hb61 : b ≤ 61 := by unfold mB at hb; omega
  have htg := tg_Ru hS hb (p := r) (by omega) (by omega)
  have hft0 : ftD N r (fun x y => x < 0 ∨ x = 0 ∧ y < 0) I := by
    intro s t p q a1 a2 a3 a4 a5 a6 a7 a8
    rw [hF.1 s t p q a1 a2 a3 a4 a5 a6 a7 a8]
    exact ⟨fun z => ⟨z, fun _ y => by omega, fun _ y => by omega⟩, fun z => z.1⟩
  have fin : ∀ (J : mj_I) (w1 w2 : Option xV), fr (fun a => a = 104) I J → ftD N r (fun _ _ => True) J → xW d 118 56 [some (.inr (7, 0, 101, 0)), some (.inr (6, b, b + 28 + r.toNat, 0)), some (.inr (54, b, b + 1, 7)), w1, w2] [] J S Q := by
    intro J w1 w2 hJ hft
    have j1 : J (b + 28 + r.toNat) 1 = N (88 + 4 * r + 1) := by rw [hJ.f (by omega)]; exact hCR.2.1
    have j2 : J (b + 28 + r.toNat) 2 = N (88 + 4 * r + 2) := by rw [hJ.f (by omega)]; exact hCR.2.2.1
    have hlo : lo1 N r = min (J (b + 28 + r.toNat) 1) (J (b + 28 + r.toNat) 2) := by rw [j1, j2]; rfl
    have hlr : ∀ i, 0 ≤ i → i < N 4 → 0 ≤ lo1 N i ∧ lo1 N i < 6 := by
      intro i i0 i1
      have := hN.2.2.2.1 i i0 i1
      unfold InvR at this
      unfold lo1
      omega
    refine x_hd false [] 30 ?_
    (repeat' (first | rw [← hlo] | refine c_first _ htg ?_ | with_reducible assumption | with_reducible exact rfl | with_reducible exact trivial | (with_reducible (show (_ : Int) ≤ _); omega) | (with_reducible (show (_ : Int) < _); omega) | (with_reducible (show (_ : Nat) < _); omega) | (with_reducible (show (_ : Nat) ≤ _); omega) | with_reducible exact Or.inl rfl | with_reducible exact Or.inr rfl | with_reducible exact Or.inl trivial | with_reducible exact Or.inr trivial | (intro hz; exact absurd hz (by decide)) | (intro hz; exfalso; omega) | refine And.intro ?_ ?_ | intro _))
    refine h _ ((hJ.mo (fun a q => by omega)).mu (by omega) _ _) (fun k hk => ?_) ?_ (FOk_p hF (by omega) h0 h5 (hlr r hr.1 hr.2) (fun i i0 i1 => hlr i i0 (by omega)) ?_ ?_ ?_ ?_ ?_ ?_)
    · rw [mu_f (by omega), hJ.f (by omega)]
    · rw [rd_mu (by omega), hJ.r (by omega)]
    · intro s t p q a1 a2 a3 a4 a5 a6 a7 a8
      rw [rd_mu (by omega)]
      exact hft s t p q a1 a2 a3 a4 a5 a6 a7 a8
    · rw [mu_f (by omega), hJ.f (by omega)]
    · rw [mj_up_s, hJ.f (by omega)]
    · rw [rd_mu (by omega), hJ.r (by omega)]
    · rw [rd_mu (by omega), hJ.r (by omega)]
    · rw [rd_mu (by omega), hJ.r (by omega)]
  have loop : ∀ (m : Nat) (a : Int), 0 ≤ a → a + m = N 2 → ∀ (J : mj_I) (w : Option xV), fr (fun a => a = 104) I J → ftD N r (fun x y => x < a ∨ x = a ∧ y < 0) J → xW d 118 2 [some (.inr (7, 0, 101, 0)), some (.inr (6, b, b + 28 + r.toNat, 0)), some (.inr (54, b, b + 1, 7)), some (.inl a), w] [] J S Q := by
    intro m
    induction m with
    | zero =>
      intro a a0 a1 J w hJ hft
      have j0 : J 101 0 = N 2 := by rw [hJ.f (by omega)]; exact hp0
      refine x_hd false [2, 56] 30 ?_
      (repeat' (first | with_reducible assumption | with_reducible exact rfl | with_reducible exact trivial | (with_reducible (show (_ : Int) ≤ _); omega) | (with_reducible (show (_ : Int) < _); omega) | (with_reducible (show (_ : Nat) < _); omega) | (with_reducible (show (_ : Nat) ≤ _); omega) | with_reducible exact Or.inl rfl | with_reducible exact Or.inr rfl | with_reducible exact Or.inl trivial | with_reducible exact Or.inr trivial | (intro hz; exact absurd hz (by decide)) | (intro hz; exfalso; omega) | refine And.intro ?_ ?_ | intro _))
      exact fin J _ _ hJ (ftD_c hft (fun p q p0 p1 q0 q1 => ⟨fun _ => trivial, fun _ => by omega⟩))
    | succ m ih =>
      intro a a0 a1 J w hJ hft
      have inner : ∀ (x : Nat) (c : Int), 0 ≤ c → c + x = N 2 → ∀ (K : mj_I), fr (fun a => a = 104) I K → ftD N r (fun x y => x < a ∨ x = a ∧ y < c) K → xW d 118 8 [some (.inr (7, 0, 101, 0)), some (.inr (6, b, b + 28 + r.toNat, 0)), some (.inr (54, b, b + 1, 7)), some (.inl a), some (.inl c)] [] K S Q := by
        intro x
        induction x with
        | zero =>
          intro c c0 c1 K hK hft
          have j0 : K 101 0 = N 2 := by rw [hK.f (by omega)]; exact hp0
          refine x_hd false [2, 8] 30 ?_
          (repeat' (first | with_reducible assumption | with_reducible exact rfl | with_reducible exact trivial | (with_reducible (show (_ : Int) ≤ _); omega) | (with_reducible (show (_ : Int) < _); omega) | (with_reducible (show (_ : Nat) < _); omega) | (with_reducible (show (_ : Nat) ≤ _); omega) | with_reducible exact Or.inl rfl | with_reducible exact Or.inr rfl | with_reducible exact Or.inl trivial | with_reducible exact Or.inr trivial | (intro hz; exact absurd hz (by decide)) | (intro hz; exfalso; omega) | refine And.intro ?_ ?_ | intro _))
          exact ih (a + 1) (by omega) (by omega) K _ hK (ftD_c hft (fun p q p0 p1 q0 q1 => ⟨fun _ => by omega, fun _ => by omega⟩))
        | succ x ihx =>
          intro c c0 c1 K hK hft
          have j0 : K 101 0 = N 2 := by rw [hK.f (by omega)]; exact hp0
          have hCK := hC.fr hN.1 hK (fun a q => by unfold bc at q; omega)
          have j1 : K (b + 28 + r.toNat) 1 = N (88 + 4 * r + 1) := by rw [hK.f (by omega)]; exact hCR.2.1
          have j2 : K (b + 28 + r.toNat) 2 = N (88 + 4 * r + 2) := by rw [hK.f (by omega)]; exact hCR.2.2.1
          refine x_hd false [2, 8] 60 ?_
          (repeat' (first | refine c_suits hS hb hN hCK _ _ _ ?_ ?_ ?_ ?_ ?_ ?_ | refine c_fitPlace hS _ _ _ ?_ ?_ ?_ ?_ | simp (disch := omega) only [up_f] | rw [j1, j2] | with_reducible assumption | with_reducible exact rfl | with_reducible exact trivial | (with_reducible (show (_ : Int) ≤ _); omega) | (with_reducible (show (_ : Int) < _); omega) | (with_reducible (show (_ : Nat) < _); omega) | (with_reducible (show (_ : Nat) ≤ _); omega) | with_reducible exact Or.inl rfl | with_reducible exact Or.inr rfl | with_reducible exact Or.inl trivial | with_reducible exact Or.inr trivial | (intro hz; exact absurd hz (by decide)) | (intro hz; exfalso; omega) | refine And.intro ?_ ?_ | intro _))
          · rename_i z _
            exact ihx (c + 1) (by omega) (by omega) K hK (ftD_c (ftD_ok hft (z.resolve_left h0)) (fun p q p0 p1 q0 q1 => by omega))
          · rename_i z _
            refine ihx (c + 1) (by omega) (by omega) _ ((hK.up rfl _ _).up rfl _ _) (ftD_c (ftD_no hft (fun y => z (Or.inr y)) (fun s t p q a1 a2 a3 a4 a5 a6 a7 a8 => fitU (by omega) (by omega) hR.2.2.2.1 (by omega) (by omega) rfl ?_ (by omega) (by omega) (by omega) (by omega))) (fun p q p0 p1 q0 q1 => by omega))
            rw [rd_up (by omega) (by omega), ru_n (by omega)]
      refine x_hd false [2, 8] 30 ?_
      have j0 : J 101 0 = N 2 := by rw [hJ.f (by omega)]; exact hp0
      (repeat' (first | with_reducible assumption | with_reducible exact rfl | with_reducible exact trivial | (with_reducible (show (_ : Int) ≤ _); omega) | (with_reducible (show (_ : Int) < _); omega) | (with_reducible (show (_ : Nat) < _); omega) | (with_reducible (show (_ : Nat) ≤ _); omega) | with_reducible exact Or.inl rfl | with_reducible exact Or.inr rfl | with_reducible exact Or.inl trivial | with_reducible exact Or.inr trivial | (intro hz; exact absurd hz (by decide)) | (intro hz; exfalso; omega) | refine And.intro ?_ ?_ | intro _))
      exact inner (N 2).toNat 0 (by omega) (by omega) J hJ hft
  refine x_C false [.inr (7, 0, 101, 0), .inr (6, b, b + 28 + r.toNat, 0), .inr (54, b, b + 1, 7)] [2] 30 hS ⟨xok_fi hS, xok_Ru hS hb hr.1 (by omega), ok_rP hS hb, trivial⟩ ?_
  (repeat' (first | with_reducible assumption | with_reducible exact rfl | with_reducible exact trivial | (with_reducible (show (_ : Int) ≤ _); omega) | (with_reducible (show (_ : Int) < _); omega) | (with_reducible (show (_ : Nat) < _); omega) | (with_reducible (show (_ : Nat) ≤ _); omega) | with_reducible exact Or.inl rfl | with_reducible exact Or.inr rfl | with_reducible exact Or.inl trivial | with_reducible exact Or.inr trivial | (intro hz; exact absurd hz (by decide)) | (intro hz; exfalso; omega) | refine And.intro ?_ ?_ | intro _))
  exact loop (N 2).toNat 0 (by omega) (by omega) _ _ fr.refl hft0
