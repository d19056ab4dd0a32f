/-! the class's search: the pure side -/
theorem fitN_iff {N W : Int → Int} {s : Int} : ∀ k : Nat, fitN N W s k = true ↔ ∀ r : Int, 0 ≤ r → r < k → hi1 N r = s → keptB N W r = true
  | 0 => ⟨fun _ r h0 h1 => by omega, fun _ => rfl⟩
  | k + 1 => by
    unfold fitN
    rw [Bool.and_eq_true, fitN_iff k]
    constructor
    · intro ⟨h1, h2⟩ r r0 r1 hr
      by_cases e : r = k
      · subst e
        rw [if_pos hr] at h2
        exact h2
      · exact h1 r r0 (by omega) hr
    · intro h
      refine ⟨fun r r0 r1 => h r r0 (by omega), ?_⟩
      split
      · rename_i e
        exact h k (by omega) (by omega) e
      · rfl
theorem fitB_iff {N W : Int → Int} {s : Int} (hN : Inv N) : fitB N W s = true ↔ ∀ r : Int, 0 ≤ r → r < N 4 → hi1 N r = s → keptB N W r = true := by
  have hH := hN.1
  unfold InvH at hH
  unfold fitB
  rw [fitN_iff, show (((N 4).toNat : Nat) : Int) = N 4 by omega]
theorem sb_l {W W' : Int → Int} {lo : Int} : ∀ k : Nat, (∀ q, lo ≤ q → q < lo + k → W q = W' q) → sb W lo k = sb W' lo k ∧ ngB W lo k = ngB W' lo k
  | 0, _ => ⟨rfl, rfl⟩
  | k + 1, h => by
    have ih := sb_l k (fun q h0 h1 => h q h0 (by omega))
    have e := h (lo + k) (by omega) (by omega)
    unfold sb ngB
    rw [ih.1, ih.2, e]
    exact ⟨rfl, rfl⟩
theorem lh_le {N : Int → Int} {r : Int} : lo1 N r ≤ hi1 N r := by unfold lo1 hi1; omega
theorem keptB_l {N W W' : Int → Int} {r : Int} (h : ∀ s, lo1 N r ≤ s → s ≤ hi1 N r → W s = W' s) : keptB N W r = keptB N W' r := by
  have hl := lh_le (N := N) (r := r)
  by_cases h5 : N (88 + 4 * r + 0) = 5
  · have q := sb_l (W := W) (W' := W') (lo := lo1 N r) (hi1 N r - lo1 N r + 1).toNat (fun s h0 h1 => h s h0 (by omega))
    rw [keptB_m h5, keptB_m h5, q.1, q.2]
  · rw [keptB_p h5, keptB_p h5, h _ (by unfold lo1; omega) (by unfold hi1; omega), h _ (by unfold lo1; omega) (by unfold hi1; omega)]
theorem ngB_0 {W : Int → Int} {lo : Int} : ∀ {k : Nat}, (∀ q, lo ≤ q → q < lo + k → 0 ≤ W q) → ngB W lo k = false
  | 0, _ => rfl
  | k + 1, h => by
    unfold ngB
    rw [ngB_0 (fun q h0 h1 => h q h0 (by omega)), decide_eq_false (by have := h (lo + k) (by omega) (by omega); omega)]
    rfl
theorem pcn_or {x p : Int} (hp : 0 ≤ p ∧ p < 7) : ∀ k : Nat, k ≤ 7 → pcn (mj_or x (mj_shl 1 p)) k = pcn x k + (if p < k ∧ mt x p.toNat = false then 1 else 0)
  | 0, _ => by
    rw [if_neg (by omega)]
    rfl
  | k + 1, hk => by
    have ih := pcn_or (x := x) hp k (by omega)
    unfold pcn
    rw [ih, mt_or, mt_one (by omega) (by omega)]
    by_cases e : (k : Int) = p
    · have e2 : p.toNat = k := by omega
      rw [decide_eq_true e, Bool.or_true, if_pos rfl, if_neg (by omega), e2]
      cases h : mt x k with
      | true => rw [if_pos rfl, if_neg (by simp)]; omega
      | false => rw [if_neg (by decide), if_pos ⟨by omega, rfl⟩]
    · rw [decide_eq_false e, Bool.or_false]
      have e4 : (if p < ((k + 1 : Nat) : Int) ∧ mt x p.toNat = false then (1 : Int) else 0) = (if p < (k : Int) ∧ mt x p.toNat = false then 1 else 0) := by
        by_cases e3 : p < k ∧ mt x p.toNat = false
        · rw [if_pos e3, if_pos ⟨by omega, e3.2⟩]
        · rw [if_neg e3, if_neg (fun q => e3 ⟨by omega, q.2⟩)]
      rw [e4]
      omega
theorem pc7_or {x p : Int} (hp : 0 ≤ p ∧ p < 7) : pc7 (mj_or x (mj_shl 1 p)) = pc7 x + (if mt x p.toNat = false then 1 else 0) := by
  unfold pc7
  rw [pcn_or hp 7 (by omega)]
  by_cases e : mt x p.toNat = false
  · rw [if_pos ⟨by omega, e⟩, if_pos e]
  · rw [if_neg (fun q => e q.2), if_neg e]
theorem sb_pc {W : Int → Int} {lo : Int} (a : Nat) : ∀ b : Nat, (∀ q, lo + a ≤ q → q < lo + a + b → 0 ≤ W q ∧ W q < 7) → pc7 (sb W lo a) ≤ pc7 (sb W lo (a + b)) ∧ pc7 (sb W lo (a + b)) ≤ pc7 (sb W lo a) + b
  | 0, _ => ⟨Int.le_refl _, by show pc7 (sb W lo a) ≤ pc7 (sb W lo a) + ((0 : Nat) : Int); omega⟩
  | b + 1, h => by
    have ih := sb_pc a b (fun q h0 h1 => h q h0 (by omega))
    have hq := h (lo + ((a + b : Nat) : Int)) (by omega) (by omega)
    have e : sb W lo (a + (b + 1)) = mj_or (sb W lo (a + b)) (mj_shl 1 (W (lo + ((a + b : Nat) : Int)))) := rfl
    rw [e, pc7_or hq]
    split <;> omega
/-- the rules of two steps: p does s, q does t -/
def prP (N : Int → Int) (s t p q : Int) : Prop := ∀ r, 0 ≤ r → r < N 4 → N (88 + 4 * r + 0) ≠ 0 → N (88 + 4 * r + 0) ≠ 5 → (N (88 + 4 * r + 1) = s ∧ N (88 + 4 * r + 2) = t → okP N (N (88 + 4 * r + 0)) (N (88 + 4 * r + 3)) p q) ∧ (N (88 + 4 * r + 2) = s ∧ N (88 + 4 * r + 1) = t → okP N (N (88 + 4 * r + 0)) (N (88 + 4 * r + 3)) q p)
/-- MANY leaves p for the step s -/
def mnP (N W : Int → Int) (s p : Int) : Prop := ∀ r, 0 ≤ r → r < N 4 → N (88 + 4 * r + 0) = 5 → lo1 N r ≤ s → s ≤ hi1 N r → N (88 + 4 * r + 3) - pc7 (sb W (lo1 N r) (s - lo1 N r).toNat) ≤ hi1 N r - s + 1 ∧ (N (88 + 4 * r + 3) - pc7 (sb W (lo1 N r) (s - lo1 N r).toNat) = hi1 N r - s + 1 → mt (sb W (lo1 N r) (s - lo1 N r).toNat) p.toNat = false)
theorem cand_fit {N W : Int → Int} (hN : Inv N) {s p : Int} (hs : 0 ≤ s ∧ s < N 3) (hp : 0 ≤ p ∧ p < N 2) (h1 : ∀ u, 0 ≤ u → u < s → prP N u s (W u) p) (h2 : mnP N W s p) : fitB N (ru W s p) s = true := by
  have hH := hN.1
  unfold InvH at hH
  rw [fitB_iff hN]
  intro r r0 r1 hr
  have hR := hN.2.2.2.1 r r0 r1
  have hl := lh_le (N := N) (r := r)
  unfold InvR at hR
  by_cases h5 : N (88 + 4 * r + 0) = 5
  · rw [keptB_m h5, Bool.or_eq_true, decide_eq_true_eq]
    right
    have q := h2 r r0 r1 h5 (by omega) (by omega)
    rw [show (hi1 N r - lo1 N r + 1).toNat = (s - lo1 N r).toNat + 1 by omega]
    have e2 := (sb_l (W := ru W s p) (W' := W) (lo := lo1 N r) (s - lo1 N r).toNat (fun q h0 h1 => ru_n (by omega))).1
    unfold sb
    rw [e2, show lo1 N r + ((s - lo1 N r).toNat : Nat) = s by omega, ru_s, pc7_or (by omega)]
    split
    · omega
    · rename_i z
      have : ¬ (N (88 + 4 * r + 3) - pc7 (sb W (lo1 N r) (s - lo1 N r).toNat) = hi1 N r - s + 1) := fun y => z (q.2 y)
      omega
  · rw [keptB_p h5, decide_eq_true_eq]
    by_cases h0 : N (88 + 4 * r + 0) = 0
    · exact Or.inl h0
    · right; right; right
      unfold hi1 at hr
      by_cases hlt : N (88 + 4 * r + 1) < N (88 + 4 * r + 2)
      · have e : N (88 + 4 * r + 2) = s := by omega
        have z := (h1 (N (88 + 4 * r + 1)) (by omega) (by omega) r r0 r1 h0 h5).1 ⟨rfl, e⟩
        rw [e, ru_s, ru_n (by omega)]
        exact z
      · have e : N (88 + 4 * r + 1) = s := by omega
        have z := (h1 (N (88 + 4 * r + 2)) (by omega) (by omega) r r0 r1 h0 h5).2 ⟨rfl, e⟩
        rw [e, ru_s, ru_n (by omega)]
        exact z
theorem wl_ok {N : Int → Int} {B : Int → Int → Bool} (hN : Inv N) : ∀ {k : Nat} {s : Int} {W w : Int → Int}, w ∈ wl N B k s W → ∀ t, s ≤ t → t < s + k → B t (w t) = true ∧ ∀ r, 0 ≤ r → r < N 4 → hi1 N r = t → keptB N w r = true
  | 0, s, W, w, _, t, h0, h1 => by omega
  | k + 1, s, W, w, h, t, h0, h1 => by
    have hH := hN.1
    unfold InvH at hH
    unfold wl at h
    obtain ⟨p, p0, p1, h⟩ := wlp_mem h
    split at h
    · rename_i q
      by_cases e : t = s
      · subst e
        have a := (wl_mem (by omega) h).1
        have hw : w t = p := by rw [a t (Or.inl (by omega)), ru_s]
        refine ⟨by rw [hw]; exact q.1, fun r r0 r1 hr => ?_⟩
        rw [keptB_l (W' := ru W t p) (fun q _ h2 => a q (Or.inl (by omega)))]
        exact (fitB_iff hN).mp q.2 r r0 r1 hr
      · exact wl_ok hN h t (by omega) (by omega)
    · cases h
/-- a way keeps the rules of two steps -/
theorem wl_pr {N : Int → Int} {B : Int → Int → Bool} (hN : Inv N) {k : Nat} {s : Int} {W w : Int → Int} (h : w ∈ wl N B k s W) (hk : s + k = N 3) (hW : ∀ q, 0 ≤ q → q < s → 0 ≤ W q) {t u : Int} (t0 : s ≤ t) (t1 : t < N 3) (u0 : 0 ≤ u) (u1 : u < t) : prP N u t (w u) (w t) := by
  have hH := hN.1
  unfold InvH at hH
  have a := wl_mem (by omega) h
  have b := (wl_ok hN h t t0 (by omega)).2
  have hw : ∀ q, 0 ≤ q → q < N 3 → 0 ≤ w q := by
    intro q q0 q1
    by_cases e : q < s
    · rw [a.1 q (Or.inl e)]
      exact hW q q0 e
    · exact (a.2 q (by omega) (by omega)).1
  have hu := hw u u0 (by omega)
  have ht := hw t (by omega) t1
  intro r r0 r1 h0 h5
  refine ⟨fun ⟨e1, e2⟩ => ?_, fun ⟨e1, e2⟩ => ?_⟩
  · have c := b r r0 r1 (by unfold hi1; omega)
    rw [keptB_p h5, decide_eq_true_eq, e1, e2] at c
    rcases c with c | c | c | c
    · exact absurd c h0
    · omega
    · omega
    · exact c
  · have c := b r r0 r1 (by unfold hi1; omega)
    rw [keptB_p h5, decide_eq_true_eq, e1, e2] at c
    rcases c with c | c | c | c
    · exact absurd c h0
    · omega
    · omega
    · exact c
theorem wl_mn {N : Int → Int} {B : Int → Int → Bool} (hN : Inv N) {k : Nat} {s : Int} {W w : Int → Int} (h : w ∈ wl N B (k + 1) s W) (hs : 0 ≤ s) (hk : s + k + 1 = N 3) (hW : ∀ q, 0 ≤ q → q < s → 0 ≤ W q ∧ W q < N 2) : mnP N W s (w s) := by
  have hH := hN.1
  unfold InvH at hH
  have a := wl_mem (by omega) h
  have hw : ∀ q, 0 ≤ q → q < N 3 → 0 ≤ w q ∧ w q < N 2 := by
    intro q q0 q1
    by_cases e : q < s
    · rw [a.1 q (Or.inl e)]
      exact hW q q0 e
    · exact a.2 q (by omega) (by omega)
  intro r r0 r1 h5 hlo hhi
  have hR := hN.2.2.2.1 r r0 r1
  unfold InvR at hR
  have hl0 : 0 ≤ lo1 N r ∧ hi1 N r < N 3 := by unfold lo1 hi1; omega
  have c := (wl_ok hN h (hi1 N r) hhi (by omega)).2 r r0 r1 rfl
  rw [keptB_m h5, ngB_0 (fun q q0 q1 => (hw q (by omega) (by omega)).1), Bool.false_or, decide_eq_true_eq] at c
  have e2 := (sb_l (W := w) (W' := W) (lo := lo1 N r) (s - lo1 N r).toNat (fun q h0 h1 => a.1 q (Or.inl (by omega)))).1
  rw [← e2]
  generalize ha : (s - lo1 N r).toNat = i at *
  have hws := hw s (by omega) (by omega)
  have es : sb w (lo1 N r) (i + 1) = mj_or (sb w (lo1 N r) i) (mj_shl 1 (w s)) := by
    show mj_or (sb w (lo1 N r) i) (mj_shl 1 (w (lo1 N r + i))) = _
    rw [show lo1 N r + (i : Int) = s by omega]
  have p1 := pc7_or (x := sb w (lo1 N r) i) (p := w s) (by omega)
  rw [← es] at p1
  have p2 := (sb_pc (W := w) (lo := lo1 N r) (i + 1) (hi1 N r - s).toNat (fun q q0 q1 => by have := hw q (by omega) (by omega); omega)).2
  rw [show (hi1 N r - lo1 N r + 1).toNat = i + 1 + (hi1 N r - s).toNat by omega] at c
  refine ⟨?_, fun e => ?_⟩
  · split at p1 <;> omega
  · cases hm : mt (sb w (lo1 N r) i) (w s).toNat with
    | false => rfl
    | true =>
      rw [hm, if_neg (by decide)] at p1
      omega
theorem wlp_in {α : Type} {f : Int → List α} : ∀ {j : Nat} {p q : Int} {w : α}, p ≤ q → q < p + j → w ∈ f q → w ∈ wlp f j p
  | 0, _, _, _, h0, h1, _ => by omega
  | j + 1, p, q, w, h0, h1, h => by
    unfold wlp
    by_cases e : q = p
    · subst e
      exact List.mem_append_left _ h
    · exact List.mem_append_right _ (wlp_in (by omega) (by omega) h)
/-- what a person adds to the list -/
def sub (N : Int → Int) (B : Int → Int → Bool) (k : Nat) (s : Int) (W : Int → Int) (p : Int) : List (Int → Int) := if B s p = true ∧ fitB N (ru W s p) s = true then wl N B k (s + 1) (ru W s p) else []
/-- who is left for a step -/
def cdP (N : Int → Int) (B : Int → Int → Bool) (W : Int → Int) (s p : Int) : Prop := (B s p = true ∧ ∀ u, 0 ≤ u → u < s → prP N u s (W u) p) ∧ mnP N W s p
theorem sub_t {N : Int → Int} {B : Int → Int → Bool} (hN : Inv N) {k : Nat} {s p : Int} {W : Int → Int} (hs : 0 ≤ s ∧ s < N 3) (hp : 0 ≤ p ∧ p < N 2) (h : cdP N B W s p) : sub N B k s W p = wl N B k (s + 1) (ru W s p) := if_pos ⟨h.1.1, cand_fit hN hs hp h.1.2 h.2⟩
theorem sub_f {N : Int → Int} {B : Int → Int → Bool} (hN : Inv N) {k : Nat} {s p : Int} {W : Int → Int} (hs : 0 ≤ s) (hk : s + k + 1 = N 3) (hp : 0 ≤ p ∧ p < N 2) (hW : ∀ q, 0 ≤ q → q < s → 0 ≤ W q ∧ W q < N 2) (h : ¬ cdP N B W s p) : sub N B k s W p = [] := by
  have hH := hN.1
  unfold InvH at hH
  cases e : sub N B k s W p with
  | nil => rfl
  | cons w l =>
    exfalso
    have hm : w ∈ sub N B k s W p := by rw [e]; exact List.mem_cons_self
    have hm2 : w ∈ wl N B (k + 1) s W := wlp_in (q := p) (by omega) (by omega) hm
    have hw : w s = p := by
      unfold sub at hm
      split at hm
      · rw [(wl_mem (by omega) hm).1 s (Or.inl (by omega)), ru_s]
      · cases hm
    have a := (wl_mem (by omega) hm2).1
    refine h ⟨⟨?_, fun u u0 u1 => ?_⟩, ?_⟩
    · rw [← hw]
      exact (wl_ok hN hm2 s (by omega) (by omega)).1
    · have := wl_pr hN hm2 (by omega) (fun q q0 q1 => (hW q q0 q1).1) (t := s) (u := u) (by omega) (by omega) u0 u1
      rw [hw, a u (Or.inl u1)] at this
      exact this
    · rw [← hw]
      exact wl_mn hN hm2 hs hk hW
/-- it makes no difference to the later steps who does s -/
def utP (N W : Int → Int) (s : Int) : Prop := (∀ r, 0 ≤ r → r < N 4 → N (88 + 4 * r + 0) ≠ 0 → N (88 + 4 * r + 0) ≠ 5 → lo1 N r ≠ s) ∧ ∀ r, 0 ≤ r → r < N 4 → N (88 + 4 * r + 0) = 5 → lo1 N r ≤ s → s < hi1 N r → N (88 + 4 * r + 3) ≤ pc7 (sb W (lo1 N r) (s - lo1 N r).toNat)
theorem ru_cm {V : Int → Int} {s t p q : Int} (h : s ≠ t) : ru (ru V s p) t q = ru (ru V t q) s p := by
  funext i
  by_cases e1 : i = s
  · subst e1
    rw [ru_n h, ru_s, ru_s]
  · by_cases e2 : i = t
    · subst e2
      rw [ru_s, ru_n e1, ru_s]
    · rw [ru_n e2, ru_n e1, ru_n e1, ru_n e2]
theorem fit_al {N W V : Int → Int} (hN : Inv N) {s t p q : Int} (hu : utP N W s) (hst : s < t) (hV : ∀ i, 0 ≤ i → i < s → V i = W i) (hVb : ∀ i, 0 ≤ i → i < t → 0 ≤ V i ∧ V i < N 2) (hp : 0 ≤ p ∧ p < N 2) (hq : 0 ≤ q ∧ q < N 2) : fitB N (ru (ru V s p) t q) t = fitB N (ru V t q) t := by
  have hH := hN.1
  unfold InvH at hH
  have key : ∀ r, 0 ≤ r → r < N 4 → hi1 N r = t → keptB N (ru (ru V s p) t q) r = keptB N (ru V t q) r := by
    intro r r0 r1 hr
    have hR := hN.2.2.2.1 r r0 r1
    have hl := lh_le (N := N) (r := r)
    have hl0 : 0 ≤ lo1 N r := by unfold InvR at hR; unfold lo1; omega
    by_cases h5 : N (88 + 4 * r + 0) = 5
    · by_cases hlo : lo1 N r ≤ s
      · have hn := hu.2 r r0 r1 h5 hlo (by omega)
        have big : ∀ X : Int → Int, (∀ i, 0 ≤ i → i < s → X i = W i) → (∀ i, 0 ≤ i → i ≤ t → 0 ≤ X i ∧ X i < N 2) → keptB N X r = true := by
          intro X hX hXb
          rw [keptB_m h5, Bool.or_eq_true, decide_eq_true_eq]
          right
          have e := (sb_l (W := X) (W' := W) (lo := lo1 N r) (s - lo1 N r).toNat (fun q h0 h1 => hX q (by omega) (by omega))).1
          rw [← e] at hn
          have z := (sb_pc (W := X) (lo := lo1 N r) (s - lo1 N r).toNat (t - s + 1).toNat (fun q q0 q1 => by have := hXb q (by omega) (by omega); omega)).1
          rw [show (hi1 N r - lo1 N r + 1).toNat = (s - lo1 N r).toNat + (t - s + 1).toNat by omega]
          omega
        have bd : ∀ i, 0 ≤ i → i ≤ t → 0 ≤ ru V t q i ∧ ru V t q i < N 2 := by
          intro i i0 i1
          by_cases e : i = t
          · subst e; rw [ru_s]; exact hq
          · rw [ru_n e]; exact hVb i i0 (by omega)
        rw [big (ru V t q) (fun i i0 i1 => by rw [ru_n (by omega)]; exact hV i i0 i1) bd]
        refine big _ (fun i i0 i1 => by rw [ru_n (by omega), ru_n (by omega)]; exact hV i i0 i1) (fun i i0 i1 => ?_)
        rw [ru_cm (by omega)]
        by_cases e : i = s
        · subst e; rw [ru_s]; exact hp
        · rw [ru_n e]; exact bd i i0 i1
      · refine keptB_l (fun i i0 i1 => ?_)
        rw [ru_cm (by omega), ru_n (by omega)]
    · by_cases h0 : N (88 + 4 * r + 0) = 0
      · rw [keptB_p h5, keptB_p h5, decide_eq_true (Or.inl h0), decide_eq_true (Or.inl h0)]
      · have hne := hu.1 r r0 r1 h0 h5
        unfold lo1 at hne
        unfold hi1 at hr
        rw [keptB_p h5, keptB_p h5, ru_cm (by omega), ru_n (j := s) (k := N (88 + 4 * r + 1)) (by omega), ru_n (j := s) (k := N (88 + 4 * r + 2)) (by omega)]
  rw [Bool.eq_iff_iff, fitB_iff hN, fitB_iff hN]
  refine ⟨fun h r r0 r1 hr => ?_, fun h r r0 r1 hr => ?_⟩
  · rw [← key r r0 r1 hr]; exact h r r0 r1 hr
  · rw [key r r0 r1 hr]; exact h r r0 r1 hr
theorem wlp_map {α β : Type} {f : Int → List α} {g : α → β} : ∀ (j : Nat) (p : Int), (wlp f j p).map g = wlp (fun q => (f q).map g) j p
  | 0, _ => rfl
  | j + 1, p => by
    unfold wlp
    rw [List.map_append, wlp_map j (p + 1)]
theorem wl_al {N W : Int → Int} {B : Int → Int → Bool} (hN : Inv N) {s p : Int} (hu : utP N W s) (hp : 0 ≤ p ∧ p < N 2) : ∀ (k : Nat) (t : Int) (V : Int → Int), s < t → t + k ≤ N 3 → (∀ i, 0 ≤ i → i < s → V i = W i) → (∀ i, 0 ≤ i → i < t → 0 ≤ V i ∧ V i < N 2) → wl N B k t (ru V s p) = (wl N B k t V).map (fun w => ru w s p)
  | 0, t, V, _, _, _, _ => rfl
  | k + 1, t, V, h0, h1, h2, h3 => by
    have hH := hN.1
    unfold InvH at hH
    unfold wl
    rw [wlp_map]
    refine wlp_c (fun q q0 q1 => ?_)
    rw [fit_al hN hu h0 h2 h3 hp (by omega)]
    split
    · rw [ru_cm (by omega)]
      refine wl_al hN hu hp k (t + 1) (ru V t q) (by omega) (by omega) (fun i i0 i1 => by rw [ru_n (by omega)]; exact h2 i i0 i1) (fun i i0 i1 => ?_)
      by_cases e : i = t
      · subst e; rw [ru_s]; omega
      · rw [ru_n e]; exact h3 i i0 (by omega)
    · rfl
theorem ru_ru {V : Int → Int} {s p q : Int} : ru (ru V s p) s q = ru V s q := by
  funext i
  by_cases e : i = s
  · subst e; rw [ru_s, ru_s]
  · rw [ru_n e, ru_n e, ru_n e]
theorem sub_al {N : Int → Int} {B : Int → Int → Bool} (hN : Inv N) {k : Nat} {s p q : Int} {W : Int → Int} (hs : 0 ≤ s) (hk : s + k + 1 = N 3) (hW : ∀ q, 0 ≤ q → q < s → 0 ≤ W q ∧ W q < N 2) (hu : utP N W s) (hp : 0 ≤ p ∧ p < N 2) (hq : 0 ≤ q ∧ q < N 2) (h1 : cdP N B W s p) (h2 : cdP N B W s q) : sub N B k s W q = (sub N B k s W p).map (fun w => ru w s q) := by
  rw [sub_t hN (by omega) hq h2, sub_t hN (by omega) hp h1, ← ru_ru (p := p) (q := q)]
  refine wl_al hN hu hq k (s + 1) (ru W s p) (by omega) (by omega) (fun i i0 i1 => ru_n (by omega)) (fun i i0 i1 => ?_)
  by_cases e : i = s
  · subst e; rw [ru_s]; exact hp
  · rw [ru_n e]; exact hW i i0 (by omega)
theorem wl_lv {N : Int → Int} {B : Int → Int → Bool} {k : Nat} {s : Int} {W : Int → Int} : wl N B (k + 1) s W = lv N B k s W 0 := by
  unfold lv
  rw [show (N 2 - 0).toNat = (N 2).toNat by omega]
  rfl
theorem lv_sb {N : Int → Int} {B : Int → Int → Bool} {k : Nat} {s : Int} {W : Int → Int} {p : Int} (h : p < N 2) : lv N B k s W p = sub N B k s W p ++ lv N B k s W (p + 1) := lv_s h
/-- nobody is left for a later step: no way -/
theorem wl_no {N : Int → Int} {B : Int → Int → Bool} (hN : Inv N) {k : Nat} {s t : Int} {W : Int → Int} (hs : 0 ≤ s) (hk : s + k = N 3) (hW : ∀ q, 0 ≤ q → q < s → 0 ≤ W q) (ht : s ≤ t ∧ t < N 3) (h : ∀ q, 0 ≤ q → q < N 2 → ¬ (B t q = true ∧ ∀ u, 0 ≤ u → u < s → prP N u t (W u) q)) : wl N B k s W = [] := by
  have hH := hN.1
  unfold InvH at hH
  cases e : wl N B k s W with
  | nil => rfl
  | cons w l =>
    exfalso
    have hm : w ∈ wl N B k s W := by rw [e]; exact List.mem_cons_self
    have a := wl_mem (by omega) hm
    have b := a.2 t ht.1 (by omega)
    refine h (w t) b.1 b.2 ⟨(wl_ok hN hm t ht.1 (by omega)).1, fun u u0 u1 => ?_⟩
    have := wl_pr hN hm hk hW ht.1 ht.2 u0 (by omega)
    rw [a.1 u (Or.inl u1)] at this
    exact this
