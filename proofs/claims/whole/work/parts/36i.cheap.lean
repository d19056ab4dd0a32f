/-! the class's search: the cheapest -/
/-- what a search for a cheaper way changes -/
def sG (s : Int) (I J : mj_I) : Prop := fr (fun a => a = 101 ∨ a = 103 ∨ a = 108 ∨ a = 111) I J ∧ (∀ k, k ≠ 14 → J 101 k = I 101 k) ∧ (∀ j, j < (s + 1) * 6 → rd J 103 j = rd I 103 j) ∧ ∀ q, q < s → rd J 108 q = rd I 108 q
theorem sG.rf {s : Int} {I : mj_I} : sG s I I := ⟨fr.refl, fun _ _ => rfl, fun _ _ => rfl, fun _ _ => rfl⟩
theorem sG.tr {s : Int} {I J K : mj_I} (h : sG s I J) (k : sG s J K) : sG s I K := ⟨h.1.tr k.1, fun i hi => by rw [k.2.1 i hi, h.2.1 i hi], fun j hj => by rw [k.2.2.1 j hj, h.2.2.1 j hj], fun q hq => by rw [k.2.2.2 q hq, h.2.2.2 q hq]⟩
theorem sG.up {s : Int} {I J : mj_I} (h : sG (s + 1) I J) : sG s I J := ⟨h.1, h.2.1, fun j hj => h.2.2.1 j (by omega), fun q hq => h.2.2.2 q (by omega)⟩
theorem sF.g {s : Int} {I J : mj_I} (h : sF s I J) : sG s I J := ⟨h.1.mo (fun a q => by omega), fun k _ => h.1.f (by omega) k, h.2.1, h.2.2⟩
theorem FO.g {N : Int → Int} {s : Int} {I J : mj_I} (h : FO N I) (hf : sG s I J) : FO N J :=
  ⟨by rw [hf.2.1 _ (by omega)]; exact h.1, by rw [hf.2.1 _ (by omega)]; exact h.2.1, h.2.2.e (hf.2.1 _ (by omega)) (hf.2.1 _ (by omega)) (hf.1.r (by omega)) (hf.1.r (by omega)) (hf.1.r (by omega)) (hf.1.r (by omega))⟩
theorem SR.g {N : Int → Int} {B : Int → Int → Bool} {I J : mj_I} {W : Int → Int} {s : Int} (h6 : N 3 ≤ 6) (h : SR N B I W s) (hf : sG s I J) : SR N B J W s := by
  refine ⟨fun q q0 q1 => ?_, fun t t0 t1 => ?_⟩
  · rw [hf.2.2.2 q q1]
    exact h.1 q q0 q1
  · rw [hf.2.2.1 _ (by omega)]
    exact h.2 t t0 t1
/-- the costs are read -/
def CO (N T : Int → Int) (I : mj_I) : Prop := (∀ s, 0 ≤ s → s ≤ N 3 → rd I 110 s = T s) ∧ ∀ s p, 0 ≤ s → s < N 3 → 0 ≤ p → p < N 2 → rd I 109 (s * 7 + p) = c1 N s p
theorem CO.g {N T : Int → Int} {s : Int} {I J : mj_I} (h : CO N T I) (hf : sG s I J) : CO N T J := by
  unfold CO at h ⊢
  rw [hf.1.r (a := 110) (by omega), hf.1.r (a := 109) (by omega)]
  exact h
/-- the best so far -/
def BS (N : Int → Int) (a : (Int → Int) × Int) (I : mj_I) : Prop := I 101 14 = a.2 ∧ (0 ≤ a.2 ∧ a.2 ≤ 1000000) ∧ ∀ q, 0 ≤ q → q < N 3 → rd I 111 q = a.1 q
theorem BS.f {N : Int → Int} {s : Int} {a : (Int → Int) × Int} {I J : mj_I} (h : BS N a I) (hf : sF s I J) : BS N a J := ⟨by rw [hf.1.f (by omega)]; exact h.1, h.2.1, fun q q0 q1 => by rw [hf.1.r (by omega)]; exact h.2.2 q q0 q1⟩
/-- 136 firstCheapest -/
theorem c_fch {d : Nat} {I : mj_I} {S : mj_S} {Q : mj_Q} (hS : mk_Sh S) {N : Int → Int} (hN : Inv N) (s x : Int) (hs : 0 ≤ s ∧ s < N 3) (h0 : I 101 0 = N 2) (hc : ∀ p, 0 ≤ p → p < N 2 → rd I 109 (s * 7 + p) = c1 N s p)
    (hE : (∀ p, 0 ≤ p → p < N 2 → mt x p.toNat = false) → Q (some (.inl 0)) I S) (hT : ∀ z, 0 ≤ z → z < N 2 → mt x z.toNat = true → (∀ q, 0 ≤ q → q < z → mt x q.toNat = true → c1 N s z < c1 N s q) → (∀ q, z < q → q < N 2 → mt x q.toNat = true → c1 N s z ≤ c1 N s q) → Q (some (.inl (mj_shl 1 z))) I S) : mj_C d 136 [.inr 101, .inl s, .inl x] I S Q := by
  have hH := hN.1
  unfold InvH at hH
  have loop : ∀ (j : Nat) (p : Int), 0 ≤ p → p + j = N 2 → ∀ (le ch : Int) (w : Option xV), (le = 1000000 ∧ ch = 0 ∧ ∀ q, 0 ≤ q → q < p → mt x q.toNat = false) ∨ (∃ z, 0 ≤ z ∧ z < p ∧ mt x z.toNat = true ∧ ch = mj_shl 1 z ∧ le = c1 N s z ∧ (∀ q, 0 ≤ q → q < z → mt x q.toNat = true → c1 N s z < c1 N s q) ∧ (∀ q, z < q → q < p → mt x q.toNat = true → c1 N s z ≤ c1 N s q)) →
      xW d 136 6 [some (.inr (7, 0, 101, 0)), some (.inl s), some (.inl x), some (.inl le), some (.inl ch), some (.inl p), w] [] I S Q := by
    intro j
    induction j with
    | zero =>
      intro p p0 p1 le ch w hi
      refine x_hd false [6] 30 ?_
      (repeat' (first | with_reducible assumption | with_reducible exact rfl | with_reducible exact trivial | (with_reducible (show (_ : Int) ≤ _); omega) | (with_reducible (show (_ : Int) < _); omega) | (with_reducible (show (_ : Nat) < _); omega) | (with_reducible (show (_ : Nat) ≤ _); omega) | with_reducible exact Or.inl rfl | with_reducible exact Or.inr rfl | with_reducible exact Or.inl trivial | with_reducible exact Or.inr trivial | (intro hz; exact absurd hz (by decide)) | (intro hz; exfalso; omega) | refine And.intro ?_ ?_ | intro _))
      rcases hi with ⟨_, e, hi⟩ | ⟨z, z0, z1, zx, e, _, g1, g2⟩
      · rw [e]
        exact hE (fun q q0 q1 => hi q q0 (by omega))
      · rw [e]
        exact hT z z0 (by omega) zx g1 (fun q q0 q1 => g2 q q0 (by omega))
    | succ j ih =>
      intro p p0 p1 le ch w hi
      have hcp := hc p p0 (by omega)
      have hcb := c1_b (N := N) (s := s) (p := p)
      have hask : mj_and (mj_shr x p) 1 = 0 ↔ mt x p.toNat = false := ask0 (by omega)
      have hct : ¬ mj_and (mj_shr x p) 1 = 0 → mt x p.toNat = true := fun z => by
        cases e : mt x p.toNat with
        | true => rfl
        | false => exact absurd (hask.mpr e) z
      have keep : (mt x p.toNat = true → le ≤ c1 N s p) → ∀ w, xW d 136 6 [some (.inr (7, 0, 101, 0)), some (.inl s), some (.inl x), some (.inl le), some (.inl ch), some (.inl (p + 1)), w] [] I S Q := by
        intro hk w
        refine ih (p + 1) (by omega) (by omega) le ch w ?_
        rcases hi with ⟨e1, e2, hi⟩ | ⟨z, z0, z1, zx, e1, e2, g1, g2⟩
        · refine Or.inl ⟨e1, e2, fun q q0 q1 => ?_⟩
          by_cases e : q = p
          · rw [e]
            cases hm : mt x p.toNat with
            | false => rfl
            | true => have := hk hm; omega
          · exact hi q q0 (by omega)
        · refine Or.inr ⟨z, z0, by omega, zx, e1, e2, g1, fun q q0 q1 hm => ?_⟩
          by_cases e : q = p
          · rw [e] at hm ⊢
            have := hk hm
            omega
          · exact g2 q q0 (by omega) hm
      have take : mt x p.toNat = true → c1 N s p < le → ∀ w, xW d 136 6 [some (.inr (7, 0, 101, 0)), some (.inl s), some (.inl x), some (.inl (c1 N s p)), some (.inl (mj_shl 1 p)), some (.inl (p + 1)), w] [] I S Q := by
        intro hm hl w
        refine ih (p + 1) (by omega) (by omega) _ _ w (Or.inr ⟨p, p0, by omega, hm, rfl, rfl, fun q q0 q1 hq => ?_, fun q q0 q1 hq => by omega⟩)
        rcases hi with ⟨e1, e2, hi⟩ | ⟨z, z0, z1, zx, e1, e2, g1, g2⟩
        · rw [hi q q0 q1] at hq
          exact absurd hq (by decide)
        · by_cases e : q < z
          · have := g1 q q0 e hq; omega
          · by_cases e3 : q = z
            · rw [e3]; omega
            · have := g2 q (by omega) q1 hq; omega
      refine x_hd false [6] 40 ?_
      (repeat' (first | rw [hcp] | with_reducible assumption | with_reducible exact rfl | with_reducible exact trivial | (with_reducible (show (_ : Int) ≤ _); omega) | (with_reducible (show (_ : Int) < _); omega) | (with_reducible (show (_ : Nat) < _); omega) | (with_reducible (show (_ : Nat) ≤ _); omega) | with_reducible exact Or.inl rfl | with_reducible exact Or.inr rfl | with_reducible exact Or.inl trivial | with_reducible exact Or.inr trivial | (intro hz; exact absurd hz (by decide)) | (intro hz; exfalso; omega) | refine And.intro ?_ ?_ | intro _))
      · rename_i z
        exact keep (fun m => by rw [hask.mp z] at m; exact absurd m (by decide)) _
      · exact keep (fun _ => by omega) _
      · rename_i z _
        exact take (hct z) (by omega) _
  refine x_C false [.inr (7, 0, 101, 0), .inl s, .inl x] [6] 30 hS ⟨xok_fi hS, trivial, trivial, trivial⟩ ?_
  (repeat' (first | with_reducible assumption | with_reducible exact rfl | with_reducible exact trivial | (with_reducible (show (_ : Int) ≤ _); omega) | (with_reducible (show (_ : Int) < _); omega) | (with_reducible (show (_ : Nat) < _); omega) | (with_reducible (show (_ : Nat) ≤ _); omega) | with_reducible exact Or.inl rfl | with_reducible exact Or.inr rfl | with_reducible exact Or.inl trivial | with_reducible exact Or.inr trivial | (intro hz; exact absurd hz (by decide)) | (intro hz; exfalso; omega) | refine And.intro ?_ ?_ | intro _))
  exact loop (N 2).toNat 0 (by omega) (by omega) _ _ _ (Or.inl ⟨rfl, rfl, fun q q0 q1 => by omega⟩)
theorem wlp_one {α : Type} {f : Int → List α} {z : Int} (h : ∀ q, q ≠ z → f q = []) : ∀ (j : Nat) (p : Int), wlp f j p = if p ≤ z ∧ z < p + j then f z else []
  | 0, p => by
    rw [if_neg (by omega)]
    rfl
  | j + 1, p => by
    unfold wlp
    rw [wlp_one h j (p + 1)]
    by_cases e : p = z
    · subst e
      rw [if_neg (by omega), if_pos (by omega), List.append_nil]
    · rw [h p e, List.nil_append]
      by_cases e2 : p ≤ z ∧ z < p + (j + 1 : Nat)
      · rw [if_pos e2, if_pos (by omega)]
      · rw [if_neg e2, if_neg (by omega)]
/-- the lists behind the bits y -/
def gl (N : Int → Int) (B : Int → Int → Bool) (k : Nat) (s : Int) (W : Int → Int) (y : Int) (p : Int) : List (Int → Int) := wlp (fun q => if mt y q.toNat = true then wl N B k (s + 1) (ru W s q) else []) (N 2 - p).toNat p
theorem gl_s {N : Int → Int} {B : Int → Int → Bool} {k : Nat} {s : Int} {W : Int → Int} {y p : Int} (h : p < N 2) : gl N B k s W y p = (if mt y p.toNat = true then wl N B k (s + 1) (ru W s p) else []) ++ gl N B k s W y (p + 1) := by
  unfold gl
  rw [show (N 2 - p).toNat = (N 2 - (p + 1)).toNat + 1 by omega]
  rfl
theorem gl_e {N : Int → Int} {B : Int → Int → Bool} {k : Nat} {s : Int} {W : Int → Int} {y p : Int} (h : N 2 ≤ p) : gl N B k s W y p = [] := by
  unfold gl
  rw [show (N 2 - p).toNat = 0 by omega]
  rfl
theorem gl_x {N : Int → Int} {B : Int → Int → Bool} (hN : Inv N) {k : Nat} {s : Int} {W : Int → Int} {x : Int} (hs : 0 ≤ s) (hk : s + k + 1 = N 3) (hW : ∀ q, 0 ≤ q → q < s → 0 ≤ W q ∧ W q < N 2) (hc : ∀ p, 0 ≤ p → p < N 2 → (mt x p.toNat = true ↔ cdP N B W s p)) : gl N B k s W x 0 = wl N B (k + 1) s W := by
  have hH := hN.1
  unfold InvH at hH
  rw [wl_lv]
  unfold gl lv
  refine wlp_c (fun q q0 q1 => ?_)
  show (if mt x q.toNat = true then wl N B k (s + 1) (ru W s q) else []) = sub N B k s W q
  by_cases e : cdP N B W s q
  · rw [if_pos ((hc q q0 (by omega)).mpr e), sub_t hN (by omega) (by omega) e]
  · rw [if_neg (fun z => e ((hc q q0 (by omega)).mp z)), sub_f hN hs hk (by omega) hW e]
theorem gl_z {N : Int → Int} {B : Int → Int → Bool} {k : Nat} {s : Int} {W : Int → Int} {z : Int} (h7 : N 2 ≤ 7) (hz : 0 ≤ z ∧ z < N 2) : gl N B k s W (mj_shl 1 z) 0 = wl N B k (s + 1) (ru W s z) := by
  have e1 : gl N B k s W (mj_shl 1 z) 0 = wlp (fun q => if q = z then wl N B k (s + 1) (ru W s z) else []) (N 2 - 0).toNat 0 := by
    unfold gl
    refine wlp_c (fun q q0 q1 => ?_)
    show (if mt (mj_shl 1 z) q.toNat = true then wl N B k (s + 1) (ru W s q) else []) = (if q = z then wl N B k (s + 1) (ru W s z) else [])
    by_cases e : q = z
    · rw [if_pos (show mt (mj_shl 1 z) q.toNat = true by rw [mt_one (by omega) (by omega)]; exact decide_eq_true (by omega)), if_pos e, e]
    · rw [if_neg (show ¬ mt (mj_shl 1 z) q.toNat = true by rw [mt_one (by omega) (by omega), decide_eq_false (by omega)]; decide), if_neg e]
  rw [e1, wlp_one (z := z) (fun q hq => if_neg hq), if_pos (by omega), if_pos rfl]
theorem gl_0 {N : Int → Int} {B : Int → Int → Bool} {k : Nat} {s : Int} {W : Int → Int} {y : Int} (hy : ∀ p, 0 ≤ p → p < N 2 → mt y p.toNat = false) : ∀ (j : Nat) (p : Int), 0 ≤ p → p + j = N 2 → gl N B k s W y p = []
  | 0, p, _, h => gl_e (by omega)
  | j + 1, p, p0, h => by
    rw [gl_s (by omega), hy p p0 (by omega), if_neg (by decide), gl_0 hy j (p + 1) (by omega) (by omega)]
    rfl
theorem bst_b {N : Int → Int} (h6 : N 3 ≤ 6) : ∀ (l : List (Int → Int)) (a : (Int → Int) × Int), (0 ≤ a.2 ∧ a.2 ≤ 1000000) → 0 ≤ (bst N l a).2 ∧ (bst N l a).2 ≤ 1000000
  | [], _, h => h
  | w :: l, a, h => by
    unfold bst
    refine bst_b h6 l _ ?_
    have := cst_b (N := N) (W := w) h6
    split
    · show 0 ≤ cst N w ∧ cst N w ≤ 1000000
      omega
    · exact h
/-- 135 lookForCheaper -/
theorem c_cheap {N T : Int → Int} {B : Int → Int → Bool} (hN : Inv N) {S : mj_S} (hS : mk_Sh S) (hT0 : T (N 3) = 0) (hTb : ∀ s, 0 ≤ s → s ≤ N 3 → 0 ≤ T s ∧ T s ≤ 6000000) (hT : ∀ s p, 0 ≤ s → s < N 3 → 0 ≤ p → p < N 2 → B s p = true → T s ≤ T (s + 1) + c1 N s p) : ∀ (k : Nat) (s : Int) (W : Int → Int) (a : (Int → Int) × Int) (sp : Int) {d : Nat} {I : mj_I} {Q : mj_Q}, k + 2 < d → FO N I → 0 ≤ s → s + k = N 3 → (∀ q, 0 ≤ q → q < s → 0 ≤ W q ∧ W q < N 2) → SR N B I W s → CO N T I → BS N a I → sp = cstN N W s.toNat → (∀ J, sG s I J → BS N (bst N (wl N B k s W) a) J → Q none J S) → mj_C d 135 [.inr 101, .inl s, .inl sp] I S Q := by
  have hH := hN.1
  unfold InvH at hH
  intro k
  induction k with
  | zero =>
    intro s W a sp d I Q hd hF s0 hk hW hR hCO hBS hsp h
    have e1 : I 101 1 = N 3 := hF.2.1
    have e14 := hBS.1
    have eT : rd I 110 s = 0 := by rw [hCO.1 s s0 (by omega), show s = N 3 by omega, hT0]
    have hcb := cstN_b (N := N) (W := W) s.toNat
    have hab := hBS.2.1
    have ec : cst N W = sp := by unfold cst; rw [hsp, show (N 3).toNat = s.toNat by omega]
    have eb : bst N (wl N B 0 s W) a = if cst N W < a.2 then (W, cst N W) else a := rfl
    rw [eb] at h
    refine x_C false [.inr (7, 0, 101, 0), .inl s, .inl sp] [41] 40 hS ⟨xok_fi hS, trivial, trivial, trivial⟩ ?_
    (repeat' (first | rw [eT] | rw [e14] | with_reducible assumption | with_reducible exact rfl | with_reducible exact trivial | (with_reducible (show (_ : Int) ≤ _); omega) | (with_reducible (show (_ : Int) < _); omega) | (with_reducible (show (_ : Nat) < _); omega) | (with_reducible (show (_ : Nat) ≤ _); omega) | with_reducible exact Or.inl rfl | with_reducible exact Or.inr rfl | with_reducible exact Or.inl trivial | with_reducible exact Or.inr trivial | (intro hz; exact absurd hz (by decide)) | (intro hz; exfalso; omega) | refine And.intro ?_ ?_ | intro _))
    · rw [if_pos (by omega)] at h
      refine h _ ⟨fun b hb => ?_, fun j hj => ?_, fun j hj => ?_, fun q hq => ?_⟩ ⟨?_, ?_, fun q q0 q1 => ?_⟩
      · rw [cpg_o (by omega), mu_o (by omega)]
      · rw [cpg_o (by omega), mu_f (by omega)]
      · rw [rd_oo (cpg_o (by omega)), rd_mu (by omega)]
      · rw [rd_oo (cpg_o (by omega)), rd_mu (by omega)]
      · rw [cpg_o (by omega), mj_up_s]
        exact ec.symm
      · show 0 ≤ cst N W ∧ cst N W ≤ 1000000
        omega
      · rw [cpg_rd (by omega) (by omega) (by omega) (by omega) (by omega) q0 (by omega), if_pos (by omega), rd_mu (by omega), show (0 : Int) + (q - 0) = q by omega]
        exact hR.1 q q0 (by omega)
    · rw [if_neg (by omega)] at h
      exact h I sG.rf hBS
  | succ k ih =>
    intro s W a sp d I Q hd hF s0 hk hW hR hCO hBS hsp h
    have e1 : I 101 1 = N 3 := hF.2.1
    have e14 := hBS.1
    have eT : rd I 110 s = T s := hCO.1 s s0 (by omega)
    have hTs := hTb s s0 (by omega)
    have hcb := cstN_b (N := N) (W := W) s.toNat
    have hab := hBS.2.1
    have prune : a.2 ≤ sp + T s → BS N (bst N (wl N B (k + 1) s W) a) I := by
      intro hp
      rw [bst_no _ _ (fun w hw => by have := ctc_le (by omega) hT0 hT (k + 1) s W w s0 (by omega) hw; omega)]
      exact hBS
    have loop : ∀ (j : Nat) (p : Int), 0 ≤ p → p + j = N 2 → ∀ (y : Int) (a2 : (Int → Int) × Int) (J : mj_I), sG s I J → BS N a2 J → bst N (wl N B (k + 1) s W) a = bst N (gl N B k s W y p) a2 → xW d 135 41 [some (.inr (7, 0, 101, 0)), some (.inl s), some (.inl sp), some (.inl y), some (.inl p)] [] J S Q := by
      intro j
      induction j with
      | zero =>
        intro p p0 p1 y a2 J hJ hB hl
        have j0 : J 101 0 = N 2 := by rw [hJ.2.1 _ (by omega)]; exact hF.1
        rw [gl_e (by omega)] at hl
        refine x_hd false [41] 30 ?_
        (repeat' (first | with_reducible assumption | with_reducible exact rfl | with_reducible exact trivial | (with_reducible (show (_ : Int) ≤ _); omega) | (with_reducible (show (_ : Int) < _); omega) | (with_reducible (show (_ : Nat) < _); omega) | (with_reducible (show (_ : Nat) ≤ _); omega) | with_reducible exact Or.inl rfl | with_reducible exact Or.inr rfl | with_reducible exact Or.inl trivial | with_reducible exact Or.inr trivial | (intro hz; exact absurd hz (by decide)) | (intro hz; exfalso; omega) | refine And.intro ?_ ?_ | intro _))
        exact h J hJ (by rw [hl]; exact hB)
      | succ j ihj =>
        intro p p0 p1 y a2 J hJ hB hl
        have j0 : J 101 0 = N 2 := by rw [hJ.2.1 _ (by omega)]; exact hF.1
        have hFJ := hF.g hJ
        have hRJ := hR.g (by omega) hJ
        have hCJ := hCO.g hJ
        have hask : mj_and (mj_shr y p) 1 = 0 ↔ mt y p.toNat = false := ask0 (by omega)
        have hct : ¬ mj_and (mj_shr y p) 1 = 0 → mt y p.toNat = true := fun z => by
          cases e : mt y p.toNat with
          | true => rfl
          | false => exact absurd (hask.mpr e) z
        have hgs := gl_s (N := N) (B := B) (k := k) (s := s) (W := W) (y := y) (p := p) (by omega)
        have hcp := hCJ.2 s p s0 (by omega) p0 (by omega)
        have hc1 := c1_b (N := N) (s := s) (p := p)
        have esp : sp + c1 N s p = cstN N (ru W s p) (s + 1).toNat := by
          rw [show (s + 1).toNat = s.toNat + 1 by omega, cstN_s, show ((s.toNat : Nat) : Int) = s by omega, ru_s, cstN_l (W' := W) s.toNat (fun q q0 q1 => ru_n (by omega)), hsp]
        have nxt : ∀ (a3 : (Int → Int) × Int) (K : mj_I), sG s I K → BS N a3 K → a3 = bst N (if mt y p.toNat = true then wl N B k (s + 1) (ru W s p) else []) a2 → xW d 135 41 [some (.inr (7, 0, 101, 0)), some (.inl s), some (.inl sp), some (.inl y), some (.inl (p + 1))] [] K S Q := by
          intro a3 K hK hB3 e3
          refine ihj (p + 1) (by omega) (by omega) y a3 K hK hB3 ?_
          rw [hl, hgs, bst_app, e3]
        refine x_hd false [41] 60 ?_
        (repeat' (first | refine c_give hS hN k _ _ hFJ ?_ ?_ (by omega) ?_ hW hRJ ?_ ?_ | with_reducible assumption | with_reducible exact rfl | with_reducible exact trivial | (with_reducible (show (_ : Int) ≤ _); omega) | (with_reducible (show (_ : Int) < _); omega) | (with_reducible (show (_ : Nat) < _); omega) | (with_reducible (show (_ : Nat) ≤ _); omega) | with_reducible exact Or.inl rfl | with_reducible exact Or.inr rfl | with_reducible exact Or.inl trivial | with_reducible exact Or.inr trivial | (intro hz; exact absurd hz (by decide)) | (intro hz; exfalso; omega) | refine And.intro ?_ ?_ | intro _))
        · rename_i z
          exact nxt a2 J hJ hB (by rw [hask.mp z, if_neg (by decide)]; rfl)
        · rename_i J2 f1 _ _ _
          rw [f1.1.r (by omega), hcp]
          omega
        · rename_i J2 f1 _ _ _
          rw [f1.1.r (by omega), hcp]
          omega
        · rename_i z J2 f1 f2 f3 _
          rw [f1.1.r (by omega), hcp]
          refine ih _ (ru W s p) a2 _ (by omega) f2 (by omega) (by omega) (ru_W2 hW (by omega)) f3 (hCJ.g f1.g) (hB.f f1) esp (fun K hK hBK => ?_)
          (repeat' (first | with_reducible assumption | with_reducible exact rfl | with_reducible exact trivial | (with_reducible (show (_ : Int) ≤ _); omega) | (with_reducible (show (_ : Int) < _); omega) | (with_reducible (show (_ : Nat) < _); omega) | (with_reducible (show (_ : Nat) ≤ _); omega) | with_reducible exact Or.inl rfl | with_reducible exact Or.inr rfl | with_reducible exact Or.inl trivial | with_reducible exact Or.inr trivial | (intro hz; exact absurd hz (by decide)) | (intro hz; exfalso; omega) | refine And.intro ?_ ?_ | intro _))
          exact nxt _ K (hJ.tr (f1.g.tr hK.up)) hBK (by rw [if_pos (hct z)])
        · rename_i z K f1 hw _
          exact nxt a2 K (hJ.tr f1.g) (hB.f f1) (by rw [if_pos (hct z), hw]; rfl)
    refine x_C false [.inr (7, 0, 101, 0), .inl s, .inl sp] [41] 40 hS ⟨xok_fi hS, trivial, trivial, trivial⟩ ?_
    (repeat' (first | rw [eT] | rw [e14] | refine c_leftFor hS hN _ hF ?_ ?_ hW hR ?_ | refine c_isTied hS hN _ hF ?_ ?_ hW hR ?_ ?_ | refine c_fch hS hN _ _ ?_ hF.1 (fun p p0 p1 => hCO.2 s p s0 (by omega) p0 p1) ?_ ?_ | with_reducible assumption | with_reducible exact rfl | with_reducible exact trivial | (with_reducible (show (_ : Int) ≤ _); omega) | (with_reducible (show (_ : Int) < _); omega) | (with_reducible (show (_ : Nat) < _); omega) | (with_reducible (show (_ : Nat) ≤ _); omega) | with_reducible exact Or.inl rfl | with_reducible exact Or.inr rfl | with_reducible exact Or.inl trivial | with_reducible exact Or.inr trivial | (intro hz; exact absurd hz (by decide)) | (intro hz; exfalso; omega) | refine And.intro ?_ ?_ | intro _))
    · rename_i x hx hc _
      exact loop (N 2).toNat 0 (by omega) (by omega) x a I sG.rf hBS (by rw [gl_x hN s0 (by omega) hW hc])
    · rename_i x hx hc hu _ hz
      refine loop (N 2).toNat 0 (by omega) (by omega) 0 a I sG.rf hBS ?_
      rw [← gl_x hN s0 (by omega) hW hc, gl_0 hz (N 2).toNat 0 (by omega) (by omega), gl_0 (fun p _ _ => mt_0 _) (N 2).toNat 0 (by omega) (by omega)]
    · rename_i x hx hc hu _ z z0 z1 zx g1 g2
      have hcz := (hc z z0 z1).mp zx
      refine loop (N 2).toNat 0 (by omega) (by omega) (mj_shl 1 z) a I sG.rf hBS ?_
      rw [gl_z (by omega) ⟨z0, z1⟩, ← sub_t hN (by omega) ⟨z0, z1⟩ hcz]
      refine bst_al (x := x) (by omega) ⟨z0, z1⟩ zx (fun q q0 q1 hm => sub_f hN s0 (by omega) (by omega) hW (fun y => by rw [(hc q q0 q1).mpr y] at hm; exact absurd hm (by decide))) (fun q q0 q1 hm => sub_al hN s0 (by omega) hW hu ⟨z0, z1⟩ ⟨q0, q1⟩ hcz ((hc q q0 q1).mp hm)) (fun w hw => ?_) g1 g2 a
      rw [sub_t hN (by omega) ⟨z0, z1⟩ hcz] at hw
      rw [(wl_mem (by omega) hw).1 s (Or.inl (by omega)), ru_s]
    · exact h I sG.rf (prune (by omega))
