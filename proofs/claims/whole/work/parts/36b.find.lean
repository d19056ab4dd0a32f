/-! the class's search: the finder -/
def prQ (N : Int → Int) (R s t p q : Int) : Prop := ∀ r, 0 ≤ r → r < R → N (88 + 4 * r + 0) ≠ 0 → N (88 + 4 * r + 0) ≠ 5 → (N (88 + 4 * r + 1) = s ∧ N (88 + 4 * r + 2) = t → okP N (N (88 + 4 * r + 0)) (N (88 + 4 * r + 3)) p q) ∧ (N (88 + 4 * r + 2) = s ∧ N (88 + 4 * r + 1) = t → okP N (N (88 + 4 * r + 0)) (N (88 + 4 * r + 3)) q p)
/-- the finder holds the first R rules of N -/
def FOk (N : Int → Int) (R : Int) (I : mj_I) : Prop := (∀ s t p q, 0 ≤ s → s < 6 → 0 ≤ t → t < 6 → 0 ≤ p → p < N 2 → 0 ≤ q → q < N 2 → (mt (rd I 104 ((s * 6 + t) * 7 + p)) q.toNat = true ↔ prQ N R s t p q))
  ∧ (0 ≤ I 101 9 ∧ I 101 9 ≤ R)
  ∧ (∀ m, 0 ≤ m → m < I 101 9 → ∃ r, 0 ≤ r ∧ r < R ∧ N (88 + 4 * r + 0) = 5 ∧ rd I 105 m = lo1 N r ∧ rd I 106 m = hi1 N r ∧ rd I 107 m = N (88 + 4 * r + 3))
  ∧ (∀ r, 0 ≤ r → r < R → N (88 + 4 * r + 0) = 5 → ∃ m, 0 ≤ m ∧ m < I 101 9 ∧ rd I 105 m = lo1 N r ∧ rd I 106 m = hi1 N r ∧ rd I 107 m = N (88 + 4 * r + 3))
  ∧ (∀ r, 0 ≤ r → r < R → N (88 + 4 * r + 0) ≠ 0 → N (88 + 4 * r + 0) ≠ 5 → mt (I 101 10) (lo1 N r).toNat = true)
/-- the finder holds the rules of N -/
def FO (N : Int → Int) (I : mj_I) : Prop := I 101 0 = N 2 ∧ I 101 1 = N 3 ∧ FOk N (N 4) I
theorem FOk.e {N : Int → Int} {R : Int} {I J : mj_I} (h : FOk N R I) (h9 : J 101 9 = I 101 9) (h10 : J 101 10 = I 101 10) (h4 : rd J 104 = rd I 104) (h5 : rd J 105 = rd I 105) (h6 : rd J 106 = rd I 106) (h7 : rd J 107 = rd I 107) : FOk N R J := by
  unfold FOk at h ⊢
  rw [h9, h10, h4, h5, h6, h7]
  exact h
/-- cells 103 (who is left) and 108 (who does) at a step -/
def SR (N : Int → Int) (B : Int → Int → Bool) (I : mj_I) (W : Int → Int) (s : Int) : Prop := (∀ q, 0 ≤ q → q < s → rd I 108 q = W q) ∧ ∀ t, s ≤ t → t < N 3 → mtn N (rd I 103 (s * 6 + t)) ∧ ∀ p, 0 ≤ p → p < N 2 → (mt (rd I 103 (s * 6 + t)) p.toNat = true ↔ B t p = true ∧ ∀ u, 0 ≤ u → u < s → prP N u t (W u) p)
/-- what a search from the step s on changes -/
def sF (s : Int) (I J : mj_I) : Prop := fr (fun a => a = 103 ∨ a = 108) I J ∧ (∀ j, j < (s + 1) * 6 → rd J 103 j = rd I 103 j) ∧ ∀ q, q < s → rd J 108 q = rd I 108 q
theorem sF.rf {s : Int} {I : mj_I} : sF s I I := ⟨fr.refl, fun _ _ => rfl, fun _ _ => rfl⟩
theorem sF.tr {s : Int} {I J K : mj_I} (h : sF s I J) (k : sF s J K) : sF s I K := ⟨h.1.tr k.1, fun j hj => by rw [k.2.1 j hj, h.2.1 j hj], fun q hq => by rw [k.2.2 q hq, h.2.2 q hq]⟩
theorem sF.up {s : Int} {I J : mj_I} (h : sF (s + 1) I J) : sF s I J := ⟨h.1, fun j hj => h.2.1 j (by omega), fun q hq => h.2.2 q (by omega)⟩
theorem FO.fr {N : Int → Int} {I J : mj_I} (h : FO N I) (hf : fr (fun a => a = 103 ∨ a = 108) I J) : FO N J :=
  ⟨by rw [hf.f (by omega)]; exact h.1, by rw [hf.f (by omega)]; exact h.2.1, h.2.2.e (hf.f (by omega) _) (hf.f (by omega) _) (hf.r (by omega)) (hf.r (by omega)) (hf.r (by omega)) (hf.r (by omega))⟩
theorem SR.fr {N : Int → Int} {B : Int → Int → Bool} {I J : mj_I} {W : Int → Int} {s : Int} (h6 : N 3 ≤ 6) (h : SR N B I W s) (hf : sF s I J) : SR N B J W s := by
  refine ⟨fun q q0 q1 => ?_, fun t t0 t1 => ?_⟩
  · rw [hf.2.2 q q1]
    exact h.1 q q0 q1
  · rw [hf.2.1 _ (by omega)]
    exact h.2 t t0 t1
theorem c_seen {d : Nat} {I : mj_I} {S : mj_S} {Q : mj_Q} (hS : mk_Sh S) (W : Int → Int) (f s : Int) (hf : 0 ≤ f ∧ f ≤ s ∧ s ≤ 6) (hW : ∀ q, f ≤ q → q < s → rd I 108 q = W q) (h : Q (some (.inl (sb W f (s - f).toNat))) I S) : mj_C d 125 [.inr 101, .inl f, .inl s] I S Q := by
  have loop : ∀ m k : Nat, (k + m : Int) = s - f → ∀ (x q : Int), x = sb W f k → q = f + k → xW d 125 4 [some (.inr (7, 0, 101, 0)), some (.inl f), some (.inl s), some (.inl x), some (.inl q)] [] I S Q := by
    intro m
    induction m with
    | zero =>
      intro k hk x q h1 h2
      refine x_hd false [4] 30 ?_
      (repeat' (first | with_reducible assumption | with_reducible exact rfl | with_reducible exact trivial | (with_reducible (show (_ : Int) ≤ _); omega) | (with_reducible (show (_ : Int) < _); omega) | (with_reducible (show (_ : Nat) < _); omega) | (with_reducible (show (_ : Nat) ≤ _); omega) | with_reducible exact Or.inl rfl | with_reducible exact Or.inr rfl | with_reducible exact Or.inl trivial | with_reducible exact Or.inr trivial | (intro hz; exact absurd hz (by decide)) | (intro hz; exfalso; omega) | refine And.intro ?_ ?_ | intro _))
      refine Qe h ?_
      rw [h1, show (s - f).toNat = k by omega]
    | succ m ih =>
      intro k hk x q h1 h2
      have e := hW q (by omega) (by omega)
      refine x_hd false [4] 30 ?_
      (repeat' (first | with_reducible assumption | with_reducible exact rfl | with_reducible exact trivial | (with_reducible (show (_ : Int) ≤ _); omega) | (with_reducible (show (_ : Int) < _); omega) | (with_reducible (show (_ : Nat) < _); omega) | (with_reducible (show (_ : Nat) ≤ _); omega) | with_reducible exact Or.inl rfl | with_reducible exact Or.inr rfl | with_reducible exact Or.inl trivial | with_reducible exact Or.inr trivial | (intro hz; exact absurd hz (by decide)) | (intro hz; exfalso; omega) | refine And.intro ?_ ?_ | intro _))
      refine ih (k + 1) (by omega) _ _ ?_ (by omega)
      rw [h1, e, h2]
      rfl
  refine x_C false [.inr (7, 0, 101, 0), .inl f, .inl s] [4] 20 hS ⟨xok_fi hS, trivial, trivial, trivial⟩ ?_
  (repeat' (first | with_reducible assumption | with_reducible exact rfl | with_reducible exact trivial | (with_reducible (show (_ : Int) ≤ _); omega) | (with_reducible (show (_ : Int) < _); omega) | (with_reducible (show (_ : Nat) < _); omega) | (with_reducible (show (_ : Nat) ≤ _); omega) | with_reducible exact Or.inl rfl | with_reducible exact Or.inr rfl | with_reducible exact Or.inl trivial | with_reducible exact Or.inr trivial | (intro hz; exact absurd hz (by decide)) | (intro hz; exfalso; omega) | refine And.intro ?_ ?_ | intro _))
  exact loop (s - f).toNat 0 (by omega) _ _ rfl (by omega)
theorem sb_W7 {N W : Int → Int} (h7 : N 2 ≤ 7) {f s : Int} (hf : 0 ≤ f) (hW : ∀ q, 0 ≤ q → q < s → 0 ≤ W q ∧ W q < N 2) : mt7 (sb W f (s - f).toNat) := sb_7 (fun i hi => by have := hW (f + i) (by omega) (by omega); omega)
def cmP (I : mj_I) (W : Int → Int) (s p m : Int) : Prop := rd I 105 m ≤ s → s ≤ rd I 106 m → rd I 107 m - pc7 (sb W (rd I 105 m) (s - rd I 105 m).toNat) ≤ rd I 106 m - s + 1 ∧ (rd I 107 m - pc7 (sb W (rd I 105 m) (s - rd I 105 m).toNat) = rd I 106 m - s + 1 → mt (sb W (rd I 105 m) (s - rd I 105 m).toNat) p.toNat = false)
theorem cmP_mn {N W : Int → Int} {I : mj_I} {s p : Int} (hF : FOk N (N 4) I) : (∀ m, 0 ≤ m → m < I 101 9 → cmP I W s p m) ↔ mnP N W s p := by
  constructor
  · intro h r r0 r1 h5 hlo hhi
    obtain ⟨m, m0, m1, e1, e2, e3⟩ := hF.2.2.2.1 r r0 r1 h5
    have := h m m0 m1
    unfold cmP at this
    rw [e1, e2, e3] at this
    exact this hlo hhi
  · intro h m m0 m1
    obtain ⟨r, r0, r1, h5, e1, e2, e3⟩ := hF.2.2.1 m m0 m1
    unfold cmP
    rw [e1, e2, e3]
    exact h r r0 r1 h5
theorem pc7_b (x : Int) : 0 ≤ pc7 x ∧ pc7 x ≤ 7 := pcn_b x 7
theorem many_b {N : Int → Int} (hN : Inv N) {I : mj_I} (hF : FOk N (N 4) I) {m : Int} (m0 : 0 ≤ m) (m1 : m < I 101 9) : (0 ≤ rd I 105 m ∧ rd I 105 m ≤ 5) ∧ (0 ≤ rd I 106 m ∧ rd I 106 m ≤ 5) ∧ (0 ≤ rd I 107 m ∧ rd I 107 m ≤ 9) := by
  obtain ⟨r, r0, r1, h5, e1, e2, e3⟩ := hF.2.2.1 m m0 m1
  have hR := hN.2.2.2.1 r r0 r1
  have hH := hN.1
  unfold InvR at hR
  unfold InvH at hH
  rw [e1, e2, e3]
  unfold lo1 hi1
  omega
/-- 124 leftFor -/
theorem c_leftFor {d : Nat} {I : mj_I} {S : mj_S} {Q : mj_Q} (hS : mk_Sh S) {N : Int → Int} {B : Int → Int → Bool} (hN : Inv N) {W : Int → Int} (s : Int) (hF : FO N I) (hd : 1 < d) (hs : 0 ≤ s ∧ s < N 3) (hW : ∀ q, 0 ≤ q → q < s → 0 ≤ W q ∧ W q < N 2) (hR : SR N B I W s)
    (h : ∀ x, mtn N x → (∀ p, 0 ≤ p → p < N 2 → (mt x p.toNat = true ↔ cdP N B W s p)) → Q (some (.inl x)) I S) : mj_C d 124 [.inr 101, .inl s] I S Q := by
  have hH := hN.1
  unfold InvH at hH
  have hmb := hF.2.2.2.1
  have loop : ∀ m k : Nat, (k + m : Int) = I 101 9 → ∀ (x kk : Int) (w1 w2 w3 : Option xV), kk = k → mtn N x → (∀ p, 0 ≤ p → p < N 2 → (mt x p.toNat = true ↔ (B s p = true ∧ ∀ u, 0 ≤ u → u < s → prP N u s (W u) p) ∧ ∀ m : Int, 0 ≤ m → m < k → cmP I W s p m)) →
      xW d 124 11 [some (.inr (7, 0, 101, 0)), some (.inl s), some (.inl x), some (.inl kk), w1, w2, w3] [] I S Q := by
    intro m
    induction m with
    | zero =>
      intro k hk x kk w1 w2 w3 h1 h2 h3
      refine x_hd false [11] 30 ?_
      (repeat' (first | with_reducible assumption | with_reducible exact rfl | with_reducible exact trivial | (with_reducible (show (_ : Int) ≤ _); omega) | (with_reducible (show (_ : Int) < _); omega) | (with_reducible (show (_ : Nat) < _); omega) | (with_reducible (show (_ : Nat) ≤ _); omega) | with_reducible exact Or.inl rfl | with_reducible exact Or.inr rfl | with_reducible exact Or.inl trivial | with_reducible exact Or.inr trivial | (intro hz; exact absurd hz (by decide)) | (intro hz; exfalso; omega) | refine And.intro ?_ ?_ | intro _))
      refine h x h2 (fun p p0 p1 => ?_)
      rw [h3 p p0 p1, show (k : Int) = I 101 9 by omega, cmP_mn hF.2.2]
      exact Iff.rfl
    | succ m ih =>
      intro k hk x kk w1 w2 w3 h1 h2 h3
      subst h1
      have hb := many_b hN hF.2.2 (m := k) (by omega) (by omega)
      have h7 : mt7 (sb W (rd I 105 k) (s - rd I 105 k).toNat) := sb_W7 (by omega) (by omega) hW
      have hp7 := pc7_b (sb W (rd I 105 k) (s - rd I 105 k).toNat)
      have nxt : ∀ (y : Int) (w1 w2 w3 : Option xV), mtn N y → (∀ p, 0 ≤ p → p < N 2 → (mt y p.toNat = true ↔ mt x p.toNat = true ∧ cmP I W s p k)) → xW d 124 11 [some (.inr (7, 0, 101, 0)), some (.inl s), some (.inl y), some (.inl ((k : Int) + 1)), w1, w2, w3] [] I S Q := by
        intro y w1 w2 w3 hy hy2
        refine ih (k + 1) (by omega) _ _ _ _ _ (by omega) hy (fun p p0 p1 => ?_)
        rw [hy2 p p0 p1, h3 p p0 p1]
        refine ⟨fun q => ⟨q.1.1, fun m m0 m1 => ?_⟩, fun q => ⟨⟨q.1, fun m m0 m1 => q.2 m m0 (by omega)⟩, q.2 k (by omega) (by omega)⟩⟩
        by_cases e : m = k
        · rw [e]; exact q.2
        · exact q.1.2 m m0 (by omega)
      refine x_hd false [11] 60 ?_
      (repeat' (first | refine c_seen hS W _ _ ?_ (fun q q0 q1 => hR.1 q (by omega) q1) ?_ | refine c_bits _ h7 ?_ | with_reducible assumption | with_reducible exact rfl | with_reducible exact trivial | (with_reducible (show (_ : Int) ≤ _); omega) | (with_reducible (show (_ : Int) < _); omega) | (with_reducible (show (_ : Nat) < _); omega) | (with_reducible (show (_ : Nat) ≤ _); omega) | with_reducible exact Or.inl rfl | with_reducible exact Or.inr rfl | with_reducible exact Or.inl trivial | with_reducible exact Or.inr trivial | (intro hz; exact absurd hz (by decide)) | (intro hz; exfalso; omega) | refine And.intro ?_ ?_ | intro _))
      · rename_i z
        exact nxt x _ _ _ h2 (fun p p0 p1 => ⟨fun q => ⟨q, fun a _ => absurd a (by omega)⟩, fun q => q.1⟩)
      · rename_i z
        exact nxt x _ _ _ h2 (fun p p0 p1 => ⟨fun q => ⟨q, fun _ a => absurd a (by omega)⟩, fun q => q.1⟩)
      · rename_i z y
        exact nxt x _ _ _ h2 (fun p p0 p1 => ⟨fun q => ⟨q, fun _ _ => ⟨z, fun e => absurd e y⟩⟩, fun q => q.1⟩)
      · rename_i z y
        refine nxt _ _ _ _ (mtn_and h2) (fun p p0 p1 => ?_)
        rw [mt_and, mt_not _ (by omega), Bool.and_eq_true, Bool.not_eq_true']
        exact ⟨fun q => ⟨q.1, fun _ _ => ⟨z, fun _ => q.2⟩⟩, fun q => ⟨q.1, (q.2 (by omega) (by omega)).2 y⟩⟩
      · rename_i z
        refine h 0 mtn_0 (fun p p0 p1 => ?_)
        rw [mt_0]
        refine ⟨fun q => absurd q (by decide), fun q => ?_⟩
        exact absurd (((cmP_mn hF.2.2).mpr q.2 k (by omega) (by omega)) (by omega) (by omega)).1 z
  refine x_C false [.inr (7, 0, 101, 0), .inl s] [11] 30 hS ⟨xok_fi hS, trivial, trivial⟩ ?_
  (repeat' (first | with_reducible assumption | with_reducible exact rfl | with_reducible exact trivial | (with_reducible (show (_ : Int) ≤ _); omega) | (with_reducible (show (_ : Int) < _); omega) | (with_reducible (show (_ : Nat) < _); omega) | (with_reducible (show (_ : Nat) ≤ _); omega) | with_reducible exact Or.inl rfl | with_reducible exact Or.inr rfl | with_reducible exact Or.inl trivial | with_reducible exact Or.inr trivial | (intro hz; exact absurd hz (by decide)) | (intro hz; exfalso; omega) | refine And.intro ?_ ?_ | intro _))
  refine loop (I 101 9).toNat 0 (by omega) _ _ _ _ _ rfl (hR.2 s (by omega) (by omega)).1 (fun p p0 p1 => ?_)
  rw [(hR.2 s (by omega) (by omega)).2 p p0 p1]
  exact ⟨fun q => ⟨q, fun m m0 m1 => by omega⟩, fun q => q.1⟩
