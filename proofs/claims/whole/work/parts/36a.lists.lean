/-! counting, the cheapest, the most: the pure side -/
theorem wlp_len {α : Type} {f : Int → List α} {c : Nat} (h : ∀ q, (f q).length ≤ c) : ∀ (j : Nat) (p : Int), (wlp f j p).length ≤ j * c
  | 0, _ => Nat.zero_le _
  | j + 1, p => by
    unfold wlp
    rw [List.length_append, Nat.succ_mul]
    have := wlp_len h j (p + 1)
    have := h p
    omega
theorem wl_len {N : Int → Int} {B : Int → Int → Bool} (h7 : N 2 ≤ 7) : ∀ (k : Nat) (s : Int) (W : Int → Int), (wl N B k s W).length ≤ 7 ^ k
  | 0, _, _ => Nat.le_refl 1
  | k + 1, s, W => by
    unfold wl
    have h := wlp_len (f := fun p => if B s p = true ∧ fitB N (ru W s p) s = true then wl N B k (s + 1) (ru W s p) else []) (c := 7 ^ k) (fun q => by
      show List.length (if B s q = true ∧ fitB N (ru W s q) s = true then wl N B k (s + 1) (ru W s q) else []) ≤ 7 ^ k
      split
      · exact wl_len h7 k _ _
      · exact Nat.zero_le _) (N 2).toNat 0
    have h2 : (N 2).toNat * 7 ^ k ≤ 7 * 7 ^ k := Nat.mul_le_mul_right _ (by omega)
    rw [Nat.pow_succ, Nat.mul_comm]
    exact Nat.le_trans h h2
theorem p7_le : ∀ k, k ≤ 6 → 7 ^ k ≤ 117649 := by decide
theorem wl_len2 {N : Int → Int} {B : Int → Int → Bool} (h7 : N 2 ≤ 7) {k : Nat} (hk : k ≤ 6) {s : Int} {W : Int → Int} : (wl N B k s W).length ≤ 117649 := Nat.le_trans (wl_len h7 k s W) (p7_le k hk)
/-- bits of people -/
def mtn (N : Int → Int) (x : Int) : Prop := mt7 x ∧ ∀ i : Nat, N 2 ≤ i → mt x i = false
theorem mt7_and {x y : Int} (h : mt7 x) : mt7 (mj_and x y) := mt7_of (mj_and_R _ _) (fun i h7 _ => by rw [mt_and, mt7_hi h h7]; rfl)
theorem mtn_and {N : Int → Int} {x y : Int} (h : mtn N x) : mtn N (mj_and x y) := ⟨mt7_and h.1, fun i hi => by rw [mt_and, h.2 i hi]; rfl⟩
theorem mtn_0 {N : Int → Int} : mtn N 0 := ⟨mt7_0, fun i _ => mt_0 i⟩
theorem pcn_hi {x : Int} {n : Nat} (h : ∀ i : Nat, n ≤ i → mt x i = false) : ∀ k : Nat, pcn x (n + k) = pcn x n
  | 0 => rfl
  | k + 1 => by
    show pcn x (n + k) + (if mt x (n + k) = true then 1 else 0) = _
    rw [pcn_hi h k, h (n + k) (by omega), if_neg (by decide)]
    omega
theorem pc7_n {N : Int → Int} {x : Int} (hN : 0 ≤ N 2 ∧ N 2 ≤ 7) (h : mtn N x) : pc7 x = pcn x (N 2).toNat := by
  have e := pcn_hi (x := x) (n := (N 2).toNat) (fun i hi => h.2 i (by omega)) (7 - (N 2).toNat)
  rw [show (N 2).toNat + (7 - (N 2).toNat) = 7 by omega] at e
  exact e
/-- all subtrees alike: their number -/
theorem lv_al {N : Int → Int} {B : Int → Int → Bool} {k : Nat} {s : Int} {W : Int → Int} {x : Int} {c : Nat} (hf : ∀ q, 0 ≤ q → q < N 2 → mt x q.toNat = false → sub N B k s W q = []) (ht : ∀ q, 0 ≤ q → q < N 2 → mt x q.toNat = true → (sub N B k s W q).length = c) : ∀ (j : Nat) (q : Int), 0 ≤ q → q + j = N 2 → ((lv N B k s W q).length : Int) = c * (pcn x (N 2).toNat - pcn x q.toNat)
  | 0, q, q0, h => by
    rw [lv_e (by omega), show (N 2).toNat = q.toNat by omega, Int.sub_self, Int.mul_zero]
    rfl
  | j + 1, q, q0, h => by
    have ih := lv_al hf ht j (q + 1) (by omega) (by omega)
    rw [lv_sb (by omega), List.length_append]
    have e : pcn x (q + 1).toNat = pcn x q.toNat + (if mt x q.toNat = true then 1 else 0) := by
      rw [show (q + 1).toNat = q.toNat + 1 by omega]
      rfl
    cases hm : mt x q.toNat with
    | true =>
      rw [hm, if_pos rfl] at e
      have := ht q q0 (by omega) hm
      rw [e] at ih
      have e3 : (c : Int) * (pcn x (N 2).toNat - pcn x q.toNat) = c * (pcn x (N 2).toNat - (pcn x q.toNat + 1)) + c := by
        rw [show pcn x (N 2).toNat - pcn x q.toNat = (pcn x (N 2).toNat - (pcn x q.toNat + 1)) + 1 by omega, Int.mul_add, Int.mul_one]
      rw [e3, ← ih]
      omega
    | false =>
      rw [hm, if_neg (by decide)] at e
      rw [hf q q0 (by omega) hm]
      rw [e, Int.add_zero] at ih
      rw [← ih]
      show ((0 + _ : Nat) : Int) = _
      omega
/-! the cheapest -/
def c1 (N : Int → Int) (s p : Int) : Int := if 0 ≤ N (64 + 4 * s + 3) then 0 else costS N p s
theorem costS_b {N : Int → Int} {p s : Int} : 0 ≤ costS N p s ∧ costS N p s ≤ 9999 := by
  unfold costS
  split
  · omega
  · split <;> omega
theorem c1_b {N : Int → Int} {s p : Int} : 0 ≤ c1 N s p ∧ c1 N s p ≤ 9999 := by
  have := costS_b (N := N) (p := p) (s := s)
  unfold c1
  split <;> omega
theorem cstN_s {N W : Int → Int} {s : Nat} : cstN N W (s + 1) = cstN N W s + c1 N s (W s) := rfl
theorem cstN_l {N W W' : Int → Int} : ∀ s : Nat, (∀ q, 0 ≤ q → q < s → W q = W' q) → cstN N W s = cstN N W' s
  | 0, _ => rfl
  | s + 1, h => by
    rw [cstN_s, cstN_s, cstN_l s (fun q q0 q1 => h q q0 (by omega)), h s (by omega) (by omega)]
theorem cstN_b {N W : Int → Int} : ∀ s : Nat, 0 ≤ cstN N W s ∧ cstN N W s ≤ 9999 * s
  | 0 => ⟨Int.le_refl 0, Int.le_refl 0⟩
  | s + 1 => by
    have ih := cstN_b (N := N) (W := W) s
    have := c1_b (N := N) (s := s) (p := W s)
    rw [cstN_s]
    omega
theorem cst_b {N W : Int → Int} (h : N 3 ≤ 6) : 0 ≤ cst N W ∧ cst N W ≤ 59994 := by
  have := cstN_b (N := N) (W := W) (N 3).toNat
  unfold cst
  omega
theorem cst_ru {N w : Int → Int} {s q : Int} (hs : 0 ≤ s) : ∀ j : Nat, cstN N (ru w s q) j = cstN N w j + (if s < j then c1 N s q - c1 N s (w s) else 0)
  | 0 => by
    rw [if_neg (by omega)]
    rfl
  | j + 1 => by
    rw [cstN_s, cstN_s, cst_ru hs j]
    by_cases e : (j : Int) = s
    · rw [e, ru_s, if_neg (by omega), if_pos (by omega)]
      omega
    · rw [ru_n e]
      by_cases e2 : s < j
      · rw [if_pos e2, if_pos (by omega)]; omega
      · rw [if_neg e2, if_neg (by omega)]; omega
theorem bst_app {N : Int → Int} : ∀ (l1 l2 : List (Int → Int)) (a : (Int → Int) × Int), bst N (l1 ++ l2) a = bst N l2 (bst N l1 a)
  | [], _, _ => rfl
  | w :: l1, l2, a => bst_app l1 l2 _
theorem bst_no {N : Int → Int} : ∀ (l : List (Int → Int)) (a : (Int → Int) × Int), (∀ w, w ∈ l → a.2 ≤ cst N w) → bst N l a = a
  | [], _, _ => rfl
  | w :: l, a, h => by
    unfold bst
    rw [if_neg (by have := h w List.mem_cons_self; omega)]
    exact bst_no l a (fun v hv => h v (List.mem_cons_of_mem _ hv))
theorem bst_gt {N : Int → Int} {c : Int} : ∀ (l : List (Int → Int)) (a : (Int → Int) × Int), c < a.2 → (∀ w, w ∈ l → c < cst N w) → c < (bst N l a).2
  | [], _, h, _ => h
  | w :: l, a, h, hl => by
    unfold bst
    refine bst_gt l _ ?_ (fun v hv => hl v (List.mem_cons_of_mem _ hv))
    split
    · exact hl w List.mem_cons_self
    · exact h
theorem bst_of {N : Int → Int} {l1 l2 : List (Int → Int)} {w : Int → Int} {a : (Int → Int) × Int} (h : cst N w < a.2) (h1 : ∀ v, v ∈ l1 → cst N w < cst N v) (h2 : ∀ v, v ∈ l2 → cst N w ≤ cst N v) : bst N (l1 ++ w :: l2) a = (w, cst N w) := by
  rw [bst_app]
  unfold bst
  rw [if_pos (bst_gt l1 a h h1)]
  exact bst_no l2 _ h2
theorem bst_ex {N : Int → Int} : ∀ (l : List (Int → Int)) (a : (Int → Int) × Int), (∀ w, w ∈ l → a.2 ≤ cst N w) ∨ ∃ l1 w l2, l = l1 ++ w :: l2 ∧ cst N w < a.2 ∧ (∀ v, v ∈ l1 → cst N w < cst N v) ∧ ∀ v, v ∈ l2 → cst N w ≤ cst N v
  | [], _ => Or.inl (fun w h => by cases h)
  | v :: l, a => by
    by_cases hv : cst N v < a.2
    · right
      rcases bst_ex l (v, cst N v) with h | ⟨l1, w, l2, e, h1, h2, h3⟩
      · exact ⟨[], v, l, rfl, hv, (fun u hu => by cases hu), h⟩
      · have h1' : cst N w < cst N v := h1
        refine ⟨v :: l1, w, l2, by rw [e]; rfl, by omega, fun u hu => ?_, h3⟩
        rcases List.mem_cons.mp hu with hu | hu
        · rw [hu]; exact h1'
        · exact h2 u hu
    · rcases bst_ex l a with h | ⟨l1, w, l2, e, h1, h2, h3⟩
      · left
        intro u hu
        rcases List.mem_cons.mp hu with hu | hu
        · rw [hu]; omega
        · exact h u hu
      · right
        refine ⟨v :: l1, w, l2, by rw [e]; rfl, h1, fun u hu => ?_, h3⟩
        rcases List.mem_cons.mp hu with hu | hu
        · rw [hu]; omega
        · exact h2 u hu
theorem wlp_spl {α : Type} {f : Int → List α} (j : Nat) : ∀ (i : Nat) (p : Int), wlp f (i + (j + 1)) p = wlp f i p ++ (f (p + i) ++ wlp f j (p + i + 1))
  | 0, p => by
    rw [Nat.zero_add]
    show f p ++ wlp f j (p + 1) = [] ++ (f (p + ((0 : Nat) : Int)) ++ wlp f j (p + ((0 : Nat) : Int) + 1))
    rw [List.nil_append, show p + ((0 : Nat) : Int) = p by omega]
  | i + 1, p => by
    rw [show i + 1 + (j + 1) = (i + (j + 1)) + 1 by omega]
    show f p ++ wlp f (i + (j + 1)) (p + 1) = (f p ++ wlp f i (p + 1)) ++ _
    rw [wlp_spl j i (p + 1), List.append_assoc, show p + 1 + (i : Int) = p + ((i + 1 : Nat) : Int) by omega]
/-- all subtrees alike: the first cheapest person's has the first cheapest way -/
theorem bst_al {N : Int → Int} {B : Int → Int → Bool} {k : Nat} {s z : Int} {W : Int → Int} {x : Int} (hs : 0 ≤ s ∧ s < N 3) (hz : 0 ≤ z ∧ z < N 2) (hzx : mt x z.toNat = true) (hf : ∀ q, 0 ≤ q → q < N 2 → mt x q.toNat = false → sub N B k s W q = []) (ht : ∀ q, 0 ≤ q → q < N 2 → mt x q.toNat = true → sub N B k s W q = (sub N B k s W z).map (fun w => ru w s q)) (hws : ∀ w, w ∈ sub N B k s W z → w s = z)
    (h1 : ∀ q, 0 ≤ q → q < z → mt x q.toNat = true → c1 N s z < c1 N s q) (h2 : ∀ q, z < q → q < N 2 → mt x q.toNat = true → c1 N s z ≤ c1 N s q) (a : (Int → Int) × Int) : bst N (wl N B (k + 1) s W) a = bst N (sub N B k s W z) a := by
  have hcs : ∀ q w, w ∈ sub N B k s W z → cst N (ru w s q) = cst N w + (c1 N s q - c1 N s z) := by
    intro q w hw
    have := cst_ru (N := N) (w := w) (s := s) (q := q) hs.1 (N 3).toNat
    rw [if_pos (by omega), hws w hw] at this
    exact this
  have hel : ∀ q v, 0 ≤ q → q < N 2 → v ∈ sub N B k s W q → mt x q.toNat = true ∧ ∃ w, w ∈ sub N B k s W z ∧ cst N v = cst N w + (c1 N s q - c1 N s z) := by
    intro q v q0 q1 hv
    cases hm : mt x q.toNat with
    | false => rw [hf q q0 q1 hm] at hv; cases hv
    | true =>
      rw [ht q q0 q1 hm] at hv
      obtain ⟨w, hw, e⟩ := List.mem_map.mp hv
      refine ⟨rfl, w, hw, ?_⟩
      rw [← e]
      exact hcs q w hw
  have esp : wl N B (k + 1) s W = wlp (sub N B k s W) z.toNat 0 ++ (sub N B k s W z ++ wlp (sub N B k s W) (N 2 - z - 1).toNat (z + 1)) := by
    have e := wlp_spl (f := sub N B k s W) (N 2 - z - 1).toNat z.toNat 0
    rw [show z.toNat + ((N 2 - z - 1).toNat + 1) = (N 2).toNat by omega, show (0 : Int) + (z.toNat : Nat) = z by omega] at e
    exact e
  have hA : ∀ v, v ∈ wlp (sub N B k s W) z.toNat 0 → ∃ w, w ∈ sub N B k s W z ∧ cst N w < cst N v := by
    intro v hv
    obtain ⟨q, q0, q1, hq⟩ := wlp_mem hv
    obtain ⟨hm, w, hw, e⟩ := hel q v q0 (by omega) hq
    have := h1 q q0 (by omega) hm
    exact ⟨w, hw, by omega⟩
  have hC : ∀ v, v ∈ wlp (sub N B k s W) (N 2 - z - 1).toNat (z + 1) → ∃ w, w ∈ sub N B k s W z ∧ cst N w ≤ cst N v := by
    intro v hv
    obtain ⟨q, q0, q1, hq⟩ := wlp_mem hv
    obtain ⟨hm, w, hw, e⟩ := hel q v (by omega) (by omega) hq
    have := h2 q (by omega) (by omega) hm
    exact ⟨w, hw, by omega⟩
  rw [esp]
  generalize hAe : wlp (sub N B k s W) z.toNat 0 = A at *
  generalize hCe : wlp (sub N B k s W) (N 2 - z - 1).toNat (z + 1) = C at *
  rcases bst_ex (N := N) (sub N B k s W z) a with h | ⟨l1, w, l2, e, g1, g2, g3⟩
  · rw [bst_no (sub N B k s W z) a h]
    refine bst_no _ a (fun v hv => ?_)
    rcases List.mem_append.mp hv with hv | hv
    · obtain ⟨w, hw, e⟩ := hA v hv
      have := h w hw
      omega
    · rcases List.mem_append.mp hv with hv | hv
      · exact h v hv
      · obtain ⟨w, hw, e⟩ := hC v hv
        have := h w hw
        omega
  · have hmin : ∀ v, v ∈ sub N B k s W z → cst N w ≤ cst N v := by
      intro v hv
      rw [e] at hv
      rcases List.mem_append.mp hv with hv | hv
      · have := g2 v hv; omega
      · rcases List.mem_cons.mp hv with hv | hv
        · rw [hv]; omega
        · exact g3 v hv
    have r1 : bst N (sub N B k s W z) a = (w, cst N w) := by rw [e]; exact bst_of g1 g2 g3
    rw [r1, e, show A ++ (l1 ++ w :: l2 ++ C) = (A ++ l1) ++ w :: (l2 ++ C) by simp only [List.append_assoc, List.cons_append]]
    refine bst_of g1 (fun v hv => ?_) (fun v hv => ?_)
    · rcases List.mem_append.mp hv with hv | hv
      · obtain ⟨u, hu, e2⟩ := hA v hv
        have := hmin u hu
        omega
      · exact g2 v hv
    · rcases List.mem_append.mp hv with hv | hv
      · exact g3 v hv
      · obtain ⟨u, hu, e2⟩ := hC v hv
        have := hmin u hu
        omega
/-- no way is cheaper than what is spent and the least to come -/
theorem ctc_le {N : Int → Int} {B : Int → Int → Bool} {T : Int → Int} (hN : 0 ≤ N 2) (hT0 : T (N 3) = 0) (hT : ∀ s p, 0 ≤ s → s < N 3 → 0 ≤ p → p < N 2 → B s p = true → T s ≤ T (s + 1) + c1 N s p) : ∀ (k : Nat) (s : Int) (W w : Int → Int), 0 ≤ s → s + k = N 3 → w ∈ wl N B k s W → cstN N W s.toNat + T s ≤ cst N w
  | 0, s, W, w, s0, hk, h => by
    unfold wl at h
    rw [List.mem_singleton] at h
    subst h
    rw [show s = N 3 by omega, hT0]
    unfold cst
    omega
  | k + 1, s, W, w, s0, hk, h => by
    unfold wl at h
    obtain ⟨p, p0, p1, h⟩ := wlp_mem h
    split at h
    · rename_i q
      have ih := ctc_le hN hT0 hT k (s + 1) (ru W s p) w (by omega) (by omega) h
      have ht := hT s p s0 (by omega) p0 (by omega) q.1
      rw [show (s + 1).toNat = s.toNat + 1 by omega, cstN_s, show ((s.toNat : Nat) : Int) = s by omega, ru_s, cstN_l (W' := W) s.toNat (fun q q0 q1 => ru_n (by omega))] at ih
      omega
    · cases h
/-! the most -/
theorem wl_flt {N : Int → Int} {B C : Int → Int → Bool} (hN : 0 ≤ N 2) : ∀ (k : Nat) (s : Int) (W w : Int → Int), w ∈ wl N (fun s p => B s p && C s p) k s W ↔ w ∈ wl N B k s W ∧ ∀ t, s ≤ t → t < s + k → C t (w t) = true
  | 0, s, W, w => ⟨fun h => ⟨h, fun t t0 t1 => by omega⟩, fun h => h.1⟩
  | k + 1, s, W, w => by
    constructor
    · intro h
      unfold wl at h
      obtain ⟨p, p0, p1, h⟩ := wlp_mem h
      split at h
      · rename_i q
        have q1 := Bool.and_eq_true_iff.mp q.1
        obtain ⟨h1, h2⟩ := (wl_flt hN k (s + 1) _ w).mp h
        refine ⟨wlp_in (q := p) p0 p1 ?_, fun t t0 t1 => ?_⟩
        · show w ∈ (if B s p = true ∧ fitB N (ru W s p) s = true then wl N B k (s + 1) (ru W s p) else [])
          rw [if_pos ⟨q1.1, q.2⟩]
          exact h1
        · by_cases e : t = s
          · subst e
            rw [(wl_mem hN h1).1 t (Or.inl (by omega)), ru_s]
            exact q1.2
          · exact h2 t (by omega) (by omega)
      · cases h
    · intro ⟨h, hc⟩
      unfold wl at h
      obtain ⟨p, p0, p1, h⟩ := wlp_mem h
      split at h
      · rename_i q
        have hw : w s = p := by rw [(wl_mem hN h).1 s (Or.inl (by omega)), ru_s]
        refine wlp_in (q := p) p0 p1 ?_
        show w ∈ (if (B s p && C s p) = true ∧ fitB N (ru W s p) s = true then wl N (fun s p => B s p && C s p) k (s + 1) (ru W s p) else [])
        rw [if_pos ⟨by rw [q.1, ← hw, hc s (by omega) (by omega)]; rfl, q.2⟩]
        exact (wl_flt hN k (s + 1) _ w).mpr ⟨h, fun t t0 t1 => hc t (by omega) (by omega)⟩
      · cases h
theorem mst_ge {N : Int → Int} {p : Int} : ∀ {L : List (Int → Int)} {w : Int → Int}, w ∈ L → occ N w p ≤ mst N p L
  | v :: l, w, h => by
    unfold mst
    rcases List.mem_cons.mp h with h | h
    · rw [h]; omega
    · have := mst_ge (N := N) (p := p) h
      omega
theorem mst_at {N : Int → Int} {p : Int} : ∀ {L : List (Int → Int)}, 0 < mst N p L → ∃ w, w ∈ L ∧ occ N w p = mst N p L
  | [], h => by exact absurd h (by show ¬ (0 : Int) < 0; omega)
  | v :: l, h => by
    unfold mst at h ⊢
    by_cases e : mst N p l ≤ occ N v p
    · exact ⟨v, List.mem_cons_self, by omega⟩
    · have ho : 0 < mst N p l ∨ ¬ 0 < mst N p l := by omega
      rcases ho with ho | ho
      · obtain ⟨w, hw, e2⟩ := mst_at ho
        exact ⟨w, List.mem_cons_of_mem _ hw, by omega⟩
      · exact ⟨v, List.mem_cons_self, by omega⟩
theorem occN_b {W : Int → Int} {p : Int} : ∀ s : Nat, 0 ≤ occN W p s ∧ occN W p s ≤ s
  | 0 => ⟨Int.le_refl 0, Int.le_refl 0⟩
  | s + 1 => by
    have := occN_b (W := W) (p := p) s
    unfold occN
    split <;> omega
theorem pc_occ {x p : Int} {w : Int → Int} : ∀ n : Nat, (∀ i : Nat, i < n → mt x i = true → w i = p) → pcn x n ≤ occN w p n
  | 0, _ => Int.le_refl 0
  | n + 1, h => by
    have ih := pc_occ n (fun i hi => h i (by omega))
    have hn := h n (by omega)
    unfold pcn occN
    split
    · rename_i q
      rw [if_pos (hn q)]
      omega
    · split <;> omega
/-- the steps that p does, as bits -/
def ocS (w : Int → Int) (p : Int) : Nat → Int
  | 0 => 0
  | k + 1 => if w k = p then mj_or (ocS w p k) (mj_shl 1 k) else ocS w p k
theorem ocS_7 {w : Int → Int} {p : Int} : ∀ k : Nat, k ≤ 7 → mt7 (ocS w p k)
  | 0, _ => mt7_0
  | k + 1, h => by
    unfold ocS
    split
    · exact mt7_or (ocS_7 k (by omega)) (by omega)
    · exact ocS_7 k (by omega)
theorem ocS_t {w : Int → Int} {p : Int} : ∀ k : Nat, k ≤ 7 → ∀ i : Nat, i < 32 → mt (ocS w p k) i = (decide (i < k) && decide (w i = p))
  | 0, _, i, hi => by
    rw [decide_eq_false (by omega), Bool.false_and]
    exact mt_0 i
  | k + 1, h, i, hi => by
    have ih := ocS_t (w := w) (p := p) k (by omega) i hi
    unfold ocS
    by_cases e : i = k
    · subst e
      rw [decide_eq_true (show i < i + 1 by omega), Bool.true_and]
      split
      · rename_i q
        rw [mt_or, ih, mt_one (by omega) hi, decide_eq_true (show (i : Int) = i from rfl), decide_eq_true q, Bool.or_true]
      · rename_i q
        rw [ih, decide_eq_false (show ¬ i < i by omega), decide_eq_false q]
        rfl
    · have e2 : mt (mj_shl 1 (k : Int)) i = false := by rw [mt_one (by omega) hi, decide_eq_false (by omega)]
      have e3 : decide (i < k + 1) = decide (i < k) := by
        by_cases e3 : i < k
        · rw [decide_eq_true e3, decide_eq_true (show i < k + 1 by omega)]
        · rw [decide_eq_false e3, decide_eq_false (show ¬ i < k + 1 by omega)]
      rw [e3, ← ih]
      split
      · rw [mt_or, e2, Bool.or_false]
      · rfl
theorem oc_pc {x p : Int} {w : Int → Int} : ∀ n : Nat, (∀ i : Nat, i < n → mt x i = decide (w i = p)) → pcn x n = occN w p n
  | 0, _ => rfl
  | n + 1, h => by
    unfold pcn occN
    rw [oc_pc n (fun i hi => h i (by omega)), h n (by omega)]
    by_cases e : w n = p
    · rw [if_pos e, if_pos (decide_eq_true e)]
    · rw [if_neg e, if_neg (by rw [decide_eq_false e]; decide)]
theorem lt_pow : ∀ n, n < 7 → ∀ x, x < 128 → (∀ i, i < 7 → n ≤ i → mt ((x : Nat) : Int) i = false) → x < 2 ^ n := by decide +kernel
theorem pow_lt {n : Nat} (hn : n < 7) {x : Nat} (hx : x < 2 ^ n) {i : Nat} (hi : n ≤ i) : mt ((x : Nat) : Int) i = false := by
  have key : ∀ n, n < 7 → ∀ x, x < 2 ^ n → ∀ i, i < 32 → n ≤ i → mt ((x : Nat) : Int) i = false := by decide +kernel
  rcases Nat.lt_or_ge i 32 with h | h
  · exact key n hn x hx i h hi
  · exact mt_big h
