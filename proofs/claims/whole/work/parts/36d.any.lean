/-! the class's search: isAnyFrom -/
theorem lv_nil {N : Int → Int} {B : Int → Int → Bool} {k : Nat} {s : Int} {W : Int → Int} : ∀ (j : Nat) (q : Int), q + j = N 2 → (∀ p, q ≤ p → p < N 2 → sub N B k s W p = []) → lv N B k s W q = []
  | 0, q, h, _ => lv_e (by omega)
  | j + 1, q, h, hs => by
    rw [lv_sb (by omega), hs q (by omega) (by omega), lv_nil j (q + 1) (by omega) (fun p p0 p1 => hs p (by omega) p1)]
    rfl
/-- untied, and nothing behind one: nothing at all from here on -/
theorem ut_nil {N : Int → Int} {B : Int → Int → Bool} (hN : Inv N) {k : Nat} {s p : Int} {W : Int → Int} (hs : 0 ≤ s) (hk : s + k + 1 = N 3) (hW : ∀ q, 0 ≤ q → q < s → 0 ≤ W q ∧ W q < N 2) (hu : utP N W s) (hp : 0 ≤ p ∧ p < N 2) (h1 : cdP N B W s p) (he : sub N B k s W p = []) : lv N B k s W p = [] := by
  refine lv_nil (N 2 - p).toNat p (by omega) (fun q q0 q1 => ?_)
  by_cases hq : cdP N B W s q
  · rw [sub_al hN hs hk hW hu hp (by omega) h1 hq, he]
    rfl
  · exact sub_f hN hs hk (by omega) hW hq
theorem c_any {N : Int → Int} {B : Int → Int → Bool} (hN : Inv N) {S : mj_S} (hS : mk_Sh S) : ∀ (k : Nat) (s : Int) (W : Int → Int) {d : Nat} {I : mj_I} {Q : mj_Q}, k + 2 < d → FO N I → 0 ≤ s → s + k = N 3 → (∀ q, 0 ≤ q → q < s → 0 ≤ W q ∧ W q < N 2) → SR N B I W s → (∀ J v l, sF s I J → wl N B k s W = v :: l → (∀ q, 0 ≤ q → q < N 3 → rd J 108 q = v q) → Q (some (.inl 1)) J S) → (∀ J, sF s I J → wl N B k s W = [] → Q (some (.inl 0)) J S) → mj_C d 132 [.inr 101, .inl s] I S Q := by
  have hH := hN.1
  unfold InvH at hH
  intro k
  induction k with
  | zero =>
    intro s W d I Q hd hF s0 hk hW hR hT hE
    have e1 : I 101 1 = N 3 := hF.2.1
    refine x_C false [.inr (7, 0, 101, 0), .inl s] [16] 30 hS ⟨xok_fi hS, trivial, trivial⟩ ?_
    (repeat' (first | with_reducible assumption | with_reducible exact rfl | with_reducible exact trivial | (with_reducible (show (_ : Int) ≤ _); omega) | (with_reducible (show (_ : Int) < _); omega) | (with_reducible (show (_ : Nat) < _); omega) | (with_reducible (show (_ : Nat) ≤ _); omega) | with_reducible exact Or.inl rfl | with_reducible exact Or.inr rfl | with_reducible exact Or.inl trivial | with_reducible exact Or.inr trivial | (intro hz; exact absurd hz (by decide)) | (intro hz; exfalso; omega) | refine And.intro ?_ ?_ | intro _))
    exact hT I W [] sF.rf rfl (fun q q0 q1 => hR.1 q q0 (by omega))
  | succ k ih =>
    intro s W d I Q hd hF s0 hk hW hR hT hE
    have e1 : I 101 1 = N 3 := hF.2.1
    have loop : ∀ (j : Nat) (p : Int), 0 ≤ p → p + j = N 2 → ∀ (x tt : Int) (J : mj_I), mtn N x → (∀ p, 0 ≤ p → p < N 2 → (mt x p.toNat = true ↔ cdP N B W s p)) → (tt = 0 → utP N W s) → sF s I J → wl N B (k + 1) s W = lv N B k s W p → xW d 132 16 [some (.inr (7, 0, 101, 0)), some (.inl s), some (.inl x), some (.inl tt), some (.inl p)] [] J S Q := by
      intro j
      induction j with
      | zero =>
        intro p p0 p1 x tt J hx hc hu hJ hl
        have j0 : J 101 0 = N 2 := by rw [hJ.1.f (by omega)]; exact hF.1
        refine x_hd false [16] 30 ?_
        (repeat' (first | with_reducible assumption | with_reducible exact rfl | with_reducible exact trivial | (with_reducible (show (_ : Int) ≤ _); omega) | (with_reducible (show (_ : Int) < _); omega) | (with_reducible (show (_ : Nat) < _); omega) | (with_reducible (show (_ : Nat) ≤ _); omega) | with_reducible exact Or.inl rfl | with_reducible exact Or.inr rfl | with_reducible exact Or.inl trivial | with_reducible exact Or.inr trivial | (intro hz; exact absurd hz (by decide)) | (intro hz; exfalso; omega) | refine And.intro ?_ ?_ | intro _))
        exact hE J hJ (by rw [hl]; exact lv_e (by omega))
      | succ j ihj =>
        intro p p0 p1 x tt J hx hc hu hJ hl
        have j0 : J 101 0 = N 2 := by rw [hJ.1.f (by omega)]; exact hF.1
        have hFJ := hF.fr hJ.1
        have hRJ := hR.fr (by omega) hJ
        have hask : mj_and (mj_shr x p) 1 = 0 ↔ mt x p.toNat = false := ask0 (by omega)
        have hls := lv_sb (N := N) (B := B) (k := k) (s := s) (W := W) (p := p) (by omega)
        have nxt : sub N B k s W p = [] → ∀ K, sF s I K → xW d 132 16 [some (.inr (7, 0, 101, 0)), some (.inl s), some (.inl x), some (.inl tt), some (.inl (p + 1))] [] K S Q := fun he K hK => ihj (p + 1) (by omega) (by omega) x tt K hx hc hu hK (by rw [hl, hls, he]; rfl)
        have hcd : ¬ mj_and (mj_shr x p) 1 = 0 → cdP N B W s p := fun z => (hc p p0 (by omega)).mp (by
          cases e : mt x p.toNat with
          | true => rfl
          | false => exact absurd (hask.mpr e) z)
        have hsb : ¬ mj_and (mj_shr x p) 1 = 0 → sub N B k s W p = wl N B k (s + 1) (ru W s p) := fun z => sub_t hN (by omega) (by omega) (hcd z)
        refine x_hd false [16] 60 ?_
        (repeat' (first | refine c_give hS hN k _ _ hFJ ?_ ?_ (by omega) ?_ hW hRJ ?_ ?_ | refine ih _ (ru W s p) ?_ (by assumption) ?_ (by omega) (ru_W2 hW (by omega)) (by assumption) ?_ ?_ | with_reducible assumption | with_reducible exact rfl | with_reducible exact trivial | (with_reducible (show (_ : Int) ≤ _); omega) | (with_reducible (show (_ : Int) < _); omega) | (with_reducible (show (_ : Nat) < _); omega) | (with_reducible (show (_ : Nat) ≤ _); omega) | with_reducible exact Or.inl rfl | with_reducible exact Or.inr rfl | with_reducible exact Or.inl trivial | with_reducible exact Or.inr trivial | (intro hz; exact absurd hz (by decide)) | (intro hz; exfalso; omega) | refine And.intro ?_ ?_ | intro _))
        · rename_i z
          refine nxt (sub_f hN s0 (by omega) (by omega) hW (fun q => ?_)) J hJ
          have z2 := hask.mp z
          rw [(hc p p0 (by omega)).mpr q] at z2
          exact absurd z2 (by decide)
        · rename_i z J2 f1 _ _ _ K v l f2 hw hr _
          refine hT K v (l ++ lv N B k s W (p + 1)) (hJ.tr (f1.tr f2.up)) ?_ hr
          rw [hl, hls, hsb z, hw]
          rfl
        · rename_i z J2 f1 _ _ _ K f2 hw _ _
          exact nxt (by rw [hsb z, hw]) K (hJ.tr (f1.tr f2.up))
        · rename_i z J2 f1 _ _ _ K f2 hw _ ht
          exact hE K (hJ.tr (f1.tr f2.up)) (by rw [hl]; exact ut_nil hN s0 (by omega) hW (hu ht) (by omega) (hcd z) (by rw [hsb z, hw]))
        · rename_i z K f1 hw _ _
          exact nxt (by rw [hsb z, hw]) K (hJ.tr f1)
        · rename_i z K f1 hw _ ht
          exact hE K (hJ.tr f1) (by rw [hl]; exact ut_nil hN s0 (by omega) hW (hu ht) (by omega) (hcd z) (by rw [hsb z, hw]))
    refine x_C false [.inr (7, 0, 101, 0), .inl s] [16] 30 hS ⟨xok_fi hS, trivial, trivial⟩ ?_
    (repeat' (first | refine c_leftFor hS hN _ hF ?_ ?_ hW hR ?_ | refine c_isTied hS hN _ hF ?_ ?_ hW hR ?_ ?_ | with_reducible assumption | with_reducible exact rfl | with_reducible exact trivial | (with_reducible (show (_ : Int) ≤ _); omega) | (with_reducible (show (_ : Int) < _); omega) | (with_reducible (show (_ : Nat) < _); omega) | (with_reducible (show (_ : Nat) ≤ _); omega) | with_reducible exact Or.inl rfl | with_reducible exact Or.inr rfl | with_reducible exact Or.inl trivial | with_reducible exact Or.inr trivial | (intro hz; exact absurd hz (by decide)) | (intro hz; exfalso; omega) | refine And.intro ?_ ?_ | intro _))
    · rename_i x hx hc
      exact loop (N 2).toNat 0 (by omega) (by omega) x 1 I hx hc (fun q => absurd q (by decide)) sF.rf wl_lv
    · rename_i x hx hc hu
      exact loop (N 2).toNat 0 (by omega) (by omega) x 0 I hx hc (fun _ => hu) sF.rf wl_lv
