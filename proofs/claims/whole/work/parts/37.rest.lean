/-! the rest of the list after a way; goesOn again; sweeps -/
def cut (v : Int → Int) (n q : Int) : Int := if 0 ≤ q ∧ q < n then v q else -1
def rsL (N : Int → Int) (B : Int → Int → Bool) (v : Int → Int) : Nat → List (Int → Int)
  | 0 => []
  | s + 1 => lv N B ((N 3).toNat - s - 1) s (cut v s) (v s + 1) ++ rsL N B v s
theorem lv_pos {N : Int → Int} {B : Int → Int → Bool} {k : Nat} {s : Int} {W v : Int → Int} {R : List (Int → Int)} : ∀ (j : Nat) (q : Int) (P : List (Int → Int)), q + j = N 2 → lv N B k s W q = P ++ v :: R → ∃ p P2 R2, q ≤ p ∧ p < N 2 ∧ sub N B k s W p = P2 ++ v :: R2 ∧ R = R2 ++ lv N B k s W (p + 1)
  | 0, q, P, h, e => by
    rw [lv_e (by omega)] at e
    exact absurd e.symm (by simp)
  | j + 1, q, P, h, e => by
    rw [lv_sb (by omega)] at e
    rcases List.append_eq_append_iff.mp e with ⟨a', e1, e2⟩ | ⟨c', e1, e2⟩
    · obtain ⟨p, P2, R2, p0, p1, g1, g2⟩ := lv_pos j (q + 1) a' (by omega) e2
      exact ⟨p, P2, R2, by omega, p1, g1, g2⟩
    · cases c' with
      | nil =>
        rw [List.nil_append] at e2
        obtain ⟨p, P2, R2, p0, p1, g1, g2⟩ := lv_pos j (q + 1) [] (by omega) e2.symm
        exact ⟨p, P2, R2, by omega, p1, g1, g2⟩
      | cons u c' =>
        rw [List.cons_append] at e2
        injection e2 with e3 e4
        subst e3
        exact ⟨q, P, c', by omega, by omega, e1, e4⟩
theorem rs_eq {N : Int → Int} {B : Int → Int → Bool} (hN : 0 ≤ N 2) {v : Int → Int} : ∀ (k : Nat) (s : Int) (W : Int → Int), 0 ≤ s → s + k = N 3 → (∀ q, q < 0 ∨ s ≤ q → W q = -1) → ∀ P R, wl N B k s W = P ++ v :: R → R ++ rsL N B v s.toNat = rsL N B v (N 3).toNat
  | 0, s, W, s0, hk, hW, P, R, e => by
    unfold wl at e
    have e2 : R = [] := by
      cases P with
      | nil =>
        injection e with _ e4
        exact e4.symm
      | cons u P =>
        injection e with _ e4
        exact absurd e4.symm (by simp)
    rw [e2, List.nil_append, show s.toNat = (N 3).toNat by omega]
  | k + 1, s, W, s0, hk, hW, P, R, e => by
    rw [wl_lv] at e
    obtain ⟨p, P2, R2, p0, p1, g1, g2⟩ := lv_pos (N 2).toNat 0 P (by omega) e
    have hm : v ∈ sub N B k s W p := by rw [g1]; exact List.mem_append_right _ List.mem_cons_self
    have es : sub N B k s W p = wl N B k (s + 1) (ru W s p) := by
      unfold sub at hm ⊢
      split
      · rfl
      · rename_i q
        rw [if_neg q] at hm
        cases hm
    rw [es] at g1 hm
    have a := (wl_mem hN hm).1
    have ih := rs_eq hN k (s + 1) (ru W s p) (by omega) (by omega) (fun q hq => by rw [ru_n (by omega)]; exact hW q (by omega)) P2 R2 g1
    have hv : v s = p := by rw [a s (Or.inl (by omega)), ru_s]
    have hc : cut v s = W := by
      funext q
      unfold cut
      split
      · rw [a q (Or.inl (by omega)), ru_n (by omega)]
      · rw [hW q (by omega)]
    rw [show (s + 1).toNat = s.toNat + 1 by omega] at ih
    have er : rsL N B v (s.toNat + 1) = lv N B ((N 3).toNat - s.toNat - 1) (s.toNat : Nat) (cut v (s.toNat : Nat)) (v (s.toNat : Nat) + 1) ++ rsL N B v s.toNat := rfl
    rw [er, show ((s.toNat : Nat) : Int) = s by omega, hc, hv, show (N 3).toNat - s.toNat - 1 = k by omega] at ih
    rw [g2, List.append_assoc]
    exact ih
theorem rs_all {N : Int → Int} {B : Int → Int → Bool} (hN : Inv N) {v : Int → Int} {P R : List (Int → Int)} (e : allW N B = P ++ v :: R) : rsL N B v (N 3).toNat = R := by
  have hH := hN.1
  unfold InvH at hH
  have := rs_eq (N := N) (B := B) (v := v) (by omega) (N 3).toNat 0 nb (by omega) (by omega) (fun _ _ => rfl) P R e
  rw [show (0 : Int).toNat = 0 from rfl] at this
  rw [← this]
  show R ++ [] = R
  exact List.append_nil R
/-- goesOn again: the next of the list -/
theorem m_goR {d : Nat} {I : mj_I} {S : mj_S} {Q : mj_Q} (hS : mk_Sh S) (hN : Inv (rd I 151)) (hd : 3 < d) (st : Int) {v : Int → Int} (hv : ∀ q, 0 ≤ q → q < rd I 151 3 → 0 ≤ v q ∧ v q < rd I 151 2) : ∀ (n : Nat), (n : Int) ≤ rd I 151 3 → ∀ (J : mj_I) (w : Option xV), fr (fun a => a = 155) I J → (∀ q, 0 ≤ q → q < 6 → rd J 155 q = cut v n q) →
    (rsL (rd I 151) (fun s p => mt (rd I 164 s) p.toNat) v n = [] → ∀ A, fr (fun a => a = 155) I A → Q (some (.inl (-1))) A S) →
    (∀ u l, rsL (rd I 151) (fun s p => mt (rd I 164 s) p.toNat) v n = u :: l → ∀ A, fr (fun a => a = 155) I A → (∀ q, 0 ≤ q → q < 6 → rd A 155 q = u q) → Q (some (.inl (rd I 151 3))) A S) →
    xW d 253 2 [some (.inr (13, 0, 150, 0)), some (.inl st), some (.inl ((n : Int) - 1)), w] [] J S Q := by
  have hH := hN.1
  unfold InvH at hH
  have stop2 : ∀ (A : mj_I) (w : Option xV), fr (fun a => a = 155) I A → Q (some (.inl (rd I 151 3))) A S → xW d 253 2 [some (.inr (13, 0, 150, 0)), some (.inl st), some (.inl (rd I 151 3)), w] [] A S Q := by
    intro A w hA hq
    have e151 : rd A 151 = rd I 151 := hA.r (by omega)
    refine x_hd false [17] 20 ?_
    (repeat' (first | rw [e151] | with_reducible assumption | with_reducible exact rfl | with_reducible exact trivial | (with_reducible (show (_ : Int) ≤ _); omega) | (with_reducible (show (_ : Int) < _); omega) | (with_reducible (show (_ : Nat) < _); omega) | (with_reducible (show (_ : Nat) ≤ _); omega) | with_reducible exact Or.inl rfl | with_reducible exact Or.inr rfl | with_reducible exact Or.inl trivial | with_reducible exact Or.inr trivial | (intro hz; exact absurd hz (by decide)) | (intro hz; exfalso; omega) | refine And.intro ?_ ?_ | intro _))
    exact hq
  intro n
  induction n with
  | zero =>
    intro _ J w hJ hr hE hX
    refine x_hd false [17] 20 ?_
    (repeat' (first | with_reducible assumption | with_reducible exact rfl | with_reducible exact trivial | (with_reducible (show (_ : Int) ≤ _); omega) | (with_reducible (show (_ : Int) < _); omega) | (with_reducible (show (_ : Nat) < _); omega) | (with_reducible (show (_ : Nat) ≤ _); omega) | with_reducible exact Or.inl rfl | with_reducible exact Or.inr rfl | with_reducible exact Or.inl trivial | with_reducible exact Or.inr trivial | (intro hz; exact absurd hz (by decide)) | (intro hz; exfalso; omega) | refine And.intro ?_ ?_ | intro _))
    exact hE rfl J hJ
  | succ n ih =>
    intro hn J w hJ hr hE hX
    have hvn := hv n (by omega) (by omega)
    have hcb : ∀ q, -1 ≤ cut v n q ∧ cut v n q < rd I 151 2 := by
      intro q
      unfold cut
      split
      · have := hv q (by omega) (by omega)
        omega
      · omega
    rw [show ((n + 1 : Nat) : Int) - 1 = n by omega]
    refine m_goL hS hN hd st ((rd I 151 3).toNat - n - 1) n (cut v n) (by omega) (by omega) (fun q hq => by unfold cut; rw [if_neg (by omega)]) hcb (v n + 1) J w (by omega) (by omega) hJ (fun q q0 q1 => ?_) (fun hl A w hA hrA => ?_) (fun u l hl A w hA hrA => ?_)
    · rw [hr q q0 q1, show v n + 1 - 1 = v n by omega]
      by_cases e : q = n
      · rw [e, ru_s]
        unfold cut
        rw [if_pos (by omega)]
      · rw [ru_n e]
        unfold cut
        by_cases e2 : q < n
        · rw [if_pos (by omega), if_pos (by omega)]
        · rw [if_neg (by omega), if_neg (by omega)]
    · refine ih (by omega) A w hA hrA (fun hl2 => hE ?_) (fun u l hl2 => hX u l ?_)
      · unfold rsL
        rw [hl, hl2]
        rfl
      · unfold rsL
        rw [hl, hl2]
        rfl
    · refine stop2 A w hA (hX u (l ++ rsL (rd I 151) (fun s p => mt (rd I 164 s) p.toNat) v n) ?_ A hA hrA)
      have er : rsL (rd I 151) (fun s p => mt (rd I 164 s) p.toNat) v (n + 1) = lv (rd I 151) (fun s p => mt (rd I 164 s) p.toNat) ((rd I 151 3).toNat - n - 1) n (cut v n) (v n + 1) ++ rsL (rd I 151) (fun s p => mt (rd I 164 s) p.toNat) v n := rfl
      rw [er, hl]
      rfl
/-- 256 costNow -/
theorem m_costNow {d : Nat} {I : mj_I} {S : mj_S} {Q : mj_Q} (hS : mk_Sh S) (hN : Inv (rd I 151)) (hd : 0 < d) {w : Int → Int} (hw : ∀ q, 0 ≤ q → q < rd I 151 3 → 0 ≤ w q ∧ w q < rd I 151 2) (hr : ∀ q, 0 ≤ q → q < 6 → rd I 155 q = w q) (hc : ∀ s p, 0 ≤ s → s < rd I 151 3 → 0 ≤ p → p < rd I 151 2 → rd I 169 (7 * s + p) = costS (rd I 151) p s) (h : Q (some (.inl (cst (rd I 151) w))) I S) : mj_C d 256 [.inr 150] I S Q := by
  have hH := hN.1
  unfold InvH at hH
  have loop : ∀ m k : Nat, (k + m : Int) = rd I 151 3 → ∀ (sum kk : Int), kk = k → sum = cstN (rd I 151) w k → xW d 256 4 [some (.inr (13, 0, 150, 0)), some (.inl sum), some (.inl kk)] [] I S Q := by
    intro m
    induction m with
    | zero =>
      intro k hk sum kk h1 h2
      refine x_hd false [4] 30 ?_
      (repeat' (first | with_reducible assumption | with_reducible exact rfl | with_reducible exact trivial | (with_reducible (show (_ : Int) ≤ _); omega) | (with_reducible (show (_ : Int) < _); omega) | (with_reducible (show (_ : Nat) < _); omega) | (with_reducible (show (_ : Nat) ≤ _); omega) | with_reducible exact Or.inl rfl | with_reducible exact Or.inr rfl | with_reducible exact Or.inl trivial | with_reducible exact Or.inr trivial | (intro hz; exact absurd hz (by decide)) | (intro hz; exfalso; omega) | refine And.intro ?_ ?_ | intro _))
      refine Qe h ?_
      unfold cst
      rw [h2, show (rd I 151 3).toNat = k by omega]
    | succ m ih =>
      intro k hk sum kk h1 h2
      subst h1
      have hb := cstN_b (N := rd I 151) (W := w) k
      have hwk := hw k (by omega) (by omega)
      have er := hr k (by omega) (by omega)
      have ec := hc k (w k) (by omega) (by omega) hwk.1 hwk.2
      have eb := costS_b (N := rd I 151) (p := w k) (s := k)
      have e1 : c1 (rd I 151) k (w k) = if 0 ≤ rd I 151 (64 + 4 * (k : Int) + 3) then 0 else costS (rd I 151) (w k) k := rfl
      refine x_hd false [4] 40 ?_
      (repeat' (first | refine m_of4 hS _ _ ?_ ?_ ?_ | rw [er] | rw [ec] | with_reducible assumption | with_reducible exact rfl | with_reducible exact trivial | (with_reducible (show (_ : Int) ≤ _); omega) | (with_reducible (show (_ : Int) < _); omega) | (with_reducible (show (_ : Nat) < _); omega) | (with_reducible (show (_ : Nat) ≤ _); omega) | with_reducible exact Or.inl rfl | with_reducible exact Or.inr rfl | with_reducible exact Or.inl trivial | with_reducible exact Or.inr trivial | (intro hz; exact absurd hz (by decide)) | (intro hz; exfalso; omega) | refine And.intro ?_ ?_ | intro _))
      · rename_i z
        refine ih (k + 1) (by omega) _ _ (by omega) ?_
        rw [cstN_s, e1, if_neg (by omega), h2]
      · rename_i z
        refine ih (k + 1) (by omega) _ _ (by omega) ?_
        rw [cstN_s, e1, if_pos (by omega), h2]
  refine x_C false [.inr (13, 0, 150, 0)] [4] 30 hS ⟨xok_m hS, trivial⟩ ?_
  (repeat' (first | with_reducible assumption | with_reducible exact rfl | with_reducible exact trivial | (with_reducible (show (_ : Int) ≤ _); omega) | (with_reducible (show (_ : Int) < _); omega) | (with_reducible (show (_ : Nat) < _); omega) | (with_reducible (show (_ : Nat) ≤ _); omega) | with_reducible exact Or.inl rfl | with_reducible exact Or.inr rfl | with_reducible exact Or.inl trivial | with_reducible exact Or.inr trivial | (intro hz; exact absurd hz (by decide)) | (intro hz; exfalso; omega) | refine And.intro ?_ ?_ | intro _))
  exact loop (rd I 151 3).toNat 0 (by omega) _ _ rfl rfl
