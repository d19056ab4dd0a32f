/-! rows that agree on all that ways depend on -/
def agr (N N' : Int → Int) : Prop := ∀ k, (k = 2 ∨ k = 3 ∨ k = 4 ∨ k = 5 ∨ (8 ≤ k ∧ k < 136) ∨ 238 ≤ k) → N' k = N k
theorem evA_s {f f' g : Int → Int} (h : ∀ j : Nat, f' j = f j) : ∀ n : Nat, evA f' g n = evA f g n ∧ dpt f' n = dpt f n
  | 0 => ⟨rfl, rfl⟩
  | n + 1 => by
    obtain ⟨h1, h2⟩ := evA_s (g := g) h n
    refine ⟨?_, ?_⟩
    · unfold evA
      rw [h1, h2, h n]
    · unfold dpt
      rw [h2, h n]
theorem evT_s {N N' : Int → Int} {t : Int} (ht : 0 ≤ t) (h : ∀ k, 238 ≤ k → N' k = N k) (g : Int → Int) : evT N' t g = evT N t g := by
  unfold evT
  rw [h _ (by omega), (evA_s (f := wds N t) (f' := wds N' t) (fun j => h _ (by omega)) _).1]
theorem agr_may {N N' : Int → Int} (hN : Inv N) (h : agr N N') {p s d : Int} (hp : 0 ≤ p ∧ p < N 2) (hs : 0 ≤ s ∧ s < N 3) : mayS N' z0 p s d = mayS N z0 p s d := by
  have hH := hN.1
  have hP := hN.2.1 p hp.1 hp.2
  unfold InvH at hH
  unfold InvP at hP
  have e : ∀ k, (8 ≤ k ∧ k < 136) → N' k = N k := fun k q => h k (by omega)
  have hl : latT N' 0 = latT N 0 := latT_s (h 5 (by omega)) (fun k q => h k (by omega)) 0
  unfold mayS
  rw [decide_eq_decide]
  have e6 := e (8 + 8 * p + 6) (by omega)
  have ea : awy N' p d ↔ awy N p d := by unfold awy; rw [e _ (by omega), e _ (by omega)]
  have epp : ∀ q, papS N' z0 p q d ↔ papS N z0 p q d := by
    intro q
    unfold papS
    rw [pap0, pap0, pap0, pap0, e6, e (8 + 8 * p + 3) (by omega), e (8 + 8 * p + 7) (by omega)]
    unfold awy
    rw [h (8 + 8 * N (8 + 8 * p + 6) + 4) (by omega), h (8 + 8 * N (8 + 8 * p + 6) + 5) (by omega), h (8 + 8 * N (8 + 8 * p + 6) + 3) (by omega)]
  rw [ea, e (64 + 4 * s + 1) (by omega), e (8 + 8 * p + 1) (by omega), e (64 + 4 * s + 0) (by omega), e (8 + 8 * p + 0) (by omega), hl, epp]
  by_cases hl0 : latT N 0 < 0
  · simp only [hl0, true_or]
  · rw [evT_s (by omega) (fun k q => h k (by omega))]
theorem agr_cost {N N' : Int → Int} (hN : Inv N) (h : agr N N') {p s : Int} (hp : 0 ≤ p ∧ p < N 2) (hs : 0 ≤ s ∧ s < N 3) : costS N' p s = costS N p s := by
  have hH := hN.1
  unfold InvH at hH
  have e : ∀ k, (8 ≤ k ∧ k < 136) → N' k = N k := fun k q => h k (by omega)
  have hl : latT N' 1 = latT N 1 := latT_s (h 5 (by omega)) (fun k q => h k (by omega)) 1
  have hc : costV N' p s = costV N p s := by
    unfold costV
    rw [hl, e (64 + 4 * s + 2) (by omega), e (8 + 8 * p + 1) (by omega), e (8 + 8 * p + 0) (by omega)]
    by_cases hl0 : latT N 1 < 0
    · rw [if_pos hl0, if_pos hl0]
    · rw [evT_s (by omega) (fun k q => h k (by omega))]
  unfold costS
  rw [hc]
theorem agr_kept {N N' W : Int → Int} (hN : Inv N) (h : agr N N') {r : Int} (hr : 0 ≤ r ∧ r < N 4) (hW : ∀ q, -1 ≤ W q ∧ W q < N 2) : keptB N' W r = keptB N W r := by
  have hH := hN.1
  unfold InvH at hH
  have e : ∀ k, (8 ≤ k ∧ k < 136) → N' k = N k := fun k q => h k (by omega)
  have k0 := e (88 + 4 * r + 0) (by omega)
  have k1 := e (88 + 4 * r + 1) (by omega)
  have k2 := e (88 + 4 * r + 2) (by omega)
  have k3 := e (88 + 4 * r + 3) (by omega)
  unfold keptB lo1 hi1
  rw [k0, k1, k2, k3]
  have q1 := hW (N (88 + 4 * r + 1))
  have q2 := hW (N (88 + 4 * r + 2))
  split
  · rfl
  · rw [decide_eq_decide]
    by_cases z1 : W (N (88 + 4 * r + 1)) < 0
    · simp only [z1, true_or, or_true]
    · by_cases z2 : W (N (88 + 4 * r + 2)) < 0
      · simp only [z2, true_or, or_true]
      · unfold okP
        rw [e (8 + 8 * W (N (88 + 4 * r + 1)) + 2) (by omega), e (8 + 8 * W (N (88 + 4 * r + 2)) + 2) (by omega), e (8 + 8 * W (N (88 + 4 * r + 1)) + 1) (by omega), e (8 + 8 * W (N (88 + 4 * r + 2)) + 1) (by omega)]
theorem agr_fit {N N' W : Int → Int} (hN : Inv N) (h : agr N N') (hW : ∀ q, -1 ≤ W q ∧ W q < N 2) (s : Int) : fitB N' W s = fitB N W s := by
  have hH := hN.1
  unfold InvH at hH
  have key : ∀ r : Nat, (r : Int) ≤ N 4 → fitN N' W s r = fitN N W s r := by
    intro r
    induction r with
    | zero => exact fun _ => rfl
    | succ r ih =>
      intro hr
      unfold fitN
      rw [ih (by omega), agr_kept hN h (by omega) hW]
      unfold hi1
      rw [h _ (by omega), h _ (by omega)]
  unfold fitB
  rw [h 4 (by omega)]
  exact key _ (by omega)
theorem wlp_c {α : Type} {f g : Int → List α} : ∀ {j : Nat} {p : Int}, (∀ q, p ≤ q → q < p + j → f q = g q) → wlp f j p = wlp g j p
  | 0, _, _ => rfl
  | j + 1, p, h => by
    unfold wlp
    rw [h p (by omega) (by omega), wlp_c (fun q h0 h1 => h q (by omega) (by omega))]
theorem ru_b {W : Int → Int} {m s p : Int} (hW : ∀ q, -1 ≤ W q ∧ W q < m) (hp : 0 ≤ p ∧ p < m) : ∀ q, -1 ≤ ru W s p q ∧ ru W s p q < m := by
  intro q
  unfold ru
  split
  · omega
  · exact hW q
theorem agr_wl {N N' : Int → Int} {B B' : Int → Int → Bool} (hN : Inv N) (h : agr N N') (hB : ∀ s p, 0 ≤ s → s < N 3 → 0 ≤ p → p < N 2 → B' s p = B s p) : ∀ (k : Nat) (s : Int) (W : Int → Int), 0 ≤ s → s + k ≤ N 3 → (∀ q, -1 ≤ W q ∧ W q < N 2) → wl N' B' k s W = wl N B k s W
  | 0, _, _, _, _, _ => rfl
  | k + 1, s, W, h0, h1, hW => by
    have hH := hN.1
    unfold InvH at hH
    unfold wl
    rw [h 2 (by omega)]
    refine wlp_c (fun q q0 q1 => ?_)
    rw [hB s q h0 (by omega) q0 (by omega), agr_fit hN h (ru_b hW (by omega)) s, agr_wl hN h hB k (s + 1) _ (by omega) (by omega) (ru_b hW (by omega))]
theorem nb_b {N : Int → Int} (h : 0 ≤ N 2) : ∀ q, -1 ≤ nb q ∧ nb q < N 2 := by
  intro q
  show -1 ≤ (-1 : Int) ∧ (-1 : Int) < N 2
  omega
theorem agr_all {N N' : Int → Int} (hN : Inv N) (h : agr N N') (day mis : Int) : allW N' (abB N' z0 day mis) = allW N (abB N z0 day mis) := by
  have hH := hN.1
  unfold InvH at hH
  unfold allW
  rw [h 3 (by omega)]
  refine agr_wl hN h (fun s p s0 s1 p0 p1 => ?_) _ 0 nb (by omega) (by omega) (nb_b (by omega))
  unfold abB
  rw [h _ (by omega), agr_may hN h ⟨p0, p1⟩ ⟨s0, s1⟩]
/-- a way gives every step to somebody -/
theorem wlp_mem {α : Type} {f : Int → List α} : ∀ {j : Nat} {p : Int} {w : α}, w ∈ wlp f j p → ∃ q, p ≤ q ∧ q < p + j ∧ w ∈ f q
  | 0, _, _, h => by cases h
  | j + 1, p, w, h => by
    unfold wlp at h
    rcases List.mem_append.mp h with h | h
    · exact ⟨p, by omega, by omega, h⟩
    · obtain ⟨q, h1, h2, h3⟩ := wlp_mem h
      exact ⟨q, by omega, by omega, h3⟩
theorem wl_mem {N : Int → Int} {B : Int → Int → Bool} (hN : 0 ≤ N 2) : ∀ {k : Nat} {s : Int} {W w : Int → Int}, w ∈ wl N B k s W → (∀ q, q < s ∨ s + k ≤ q → w q = W q) ∧ (∀ q, s ≤ q → q < s + k → 0 ≤ w q ∧ w q < N 2)
  | 0, s, W, w, h => by
    unfold wl at h
    rw [List.mem_singleton] at h
    subst h
    exact ⟨fun _ _ => rfl, fun q h0 h1 => by omega⟩
  | k + 1, s, W, w, h => by
    unfold wl at h
    obtain ⟨p, p0, p1, h⟩ := wlp_mem h
    split at h
    · obtain ⟨a, b⟩ := wl_mem hN h
      refine ⟨fun q hq => ?_, fun q h0 h1 => ?_⟩
      · rw [a q (by omega), ru_n (by omega)]
      · by_cases e : q = s
        · subst e
          rw [a q (by omega), ru_s]
          omega
        · exact b q (by omega) (by omega)
    · cases h
theorem agr_cst {N N' W : Int → Int} (hN : Inv N) (h : agr N N') (hW : ∀ q, 0 ≤ q → q < N 3 → 0 ≤ W q ∧ W q < N 2) : cst N' W = cst N W := by
  have hH := hN.1
  unfold InvH at hH
  have key : ∀ s : Nat, (s : Int) ≤ N 3 → cstN N' W s = cstN N W s := by
    intro s
    induction s with
    | zero => exact fun _ => rfl
    | succ s ih =>
      intro hs
      unfold cstN
      rw [ih (by omega), h _ (by omega), agr_cost hN h (hW s (by omega) (by omega)) (by omega)]
  unfold cst
  rw [h 3 (by omega)]
  exact key _ (by omega)
theorem agr_Ca {N N' : Int → Int} {L : List (Int → Int)} {M : mj_I} (hN : Inv N) (h : agr N N') (hL : ∀ w, w ∈ L → ∀ q, 0 ≤ q → q < N 3 → 0 ≤ w q ∧ w q < N 2) (hc : CaOK N L M) : CaOK N' L M := by
  have hb : ∀ (l : List (Int → Int)) (a : (Int → Int) × Int), (∀ w, w ∈ l → w ∈ L) → bst N' l a = bst N l a := by
    intro l
    induction l with
    | nil => exact fun _ _ => rfl
    | cons w l ih =>
      intro a hl
      unfold bst
      rw [agr_cst hN h (hL w (hl w List.mem_cons_self)), ih _ (fun v hv => hl v (List.mem_cons_of_mem _ hv))]
  have ho : ∀ (l : List (Int → Int)) (p : Int), dIn N' p l = dIn N p l ∧ mst N' p l = mst N p l := by
    intro l p
    induction l with
    | nil => exact ⟨rfl, rfl⟩
    | cons w l ih =>
      unfold dIn mst occ
      rw [ih.1, ih.2, h 3 (by omega)]
      exact ⟨rfl, rfl⟩
  obtain ⟨c1, c2, c3⟩ := hc
  refine ⟨c1, fun w l e => ?_, fun p p0 p1 => ?_⟩
  · have q := c2 w l e
    rw [agr_cst hN h (hL w (by rw [e]; exact List.mem_cons_self)), hb l _ (fun v hv => by rw [e]; exact List.mem_cons_of_mem _ hv)]
    exact q
  · rw [(ho L p).1, (ho L p).2]
    rw [h 2 (by omega)] at p1
    exact c3 p p0 p1
theorem all_mem {N : Int → Int} {B : Int → Int → Bool} (hN : Inv N) {w : Int → Int} (h : w ∈ allW N B) : ∀ q, 0 ≤ q → q < N 3 → 0 ≤ w q ∧ w q < N 2 := by
  have hH := hN.1
  unfold InvH at hH
  intro q h0 h1
  exact (wl_mem (by omega) h).2 q h0 (by omega)
/-- calls that change the book, and are not counted -/
theorem pair_nb {L : Nat} {xs : Nat → Int32} {n xf mf : Nat} {as : List mj_V} {I : mj_I} {S : mj_S} (hn : n < 64) (hR : Rel L xs n I S) (v : Int) (N' : Int → Int) (hI : Inv N') (ha : agr (rd I 151) N')
    (hc : ∀ Q : mj_Q, (∀ K, fr bk I K → Cb K S 21 N' → Q (some (.inl v)) K S) → mj_C 400 xf (.inr 20 :: as) I S Q)
    (hm : ∀ (K : mj_I) (Q : mj_Q), rd K 151 = rd I 151 → K 150 = I 150 → (∀ a, 61 ≤ a → ¬ scr a → K a = I a) → (∀ J, fr mk5 K J → rd J 151 = N' → J 150 = K 150 → Q (some (.inl v)) J S) → mj_C 400 mf (.inr 150 :: as) K S Q) :
    mj_C 400 xf (.inr 20 :: as) I S (fun r I' S' => ∃ v, r = some (.inl v) ∧ (I' 1 = I 1 ∧ S'.2.1 1 = S.2.1 1 ∧ S'.2.1 150 = S.2.1 150) ∧ mj_C 400 mf (.inr 150 :: as) I' S' (fun r' I'' S'' => r' = some (.inl v) ∧ Rel L xs (n + 1) I'' S'')) := by
  have hN := hR.2.2.1.1
  refine hc _ (fun K hK hCK => ⟨v, rfl, ⟨hK 1 (by unfold bk scr; omega), rfl, rfl⟩, ?_⟩)
  refine hm K _ (hK.r (by unfold bk scr; omega)) (hK 150 (by unfold bk scr; omega)) (fun a h1 h2 => hK a (by unfold scr at h2; unfold bk scr; omega)) (fun J hJ h1 h2 => ⟨rfl, ?_⟩)
  have hf : fr mtb I J := (hK.mo (fun a q => by unfold bk scr at q; unfold mtb scr; omega)).tr (hJ.mo (fun a q => by unfold mk5 scr at q; unfold mtb scr; omega))
  have e150 : J 150 = I 150 := by rw [h2, hK 150 (by unfold bk scr; omega)]
  refine Rel_mut hn hR hf (fun k hk => by rw [e150]) (by rw [e150]; omega) (by rw [h1]; exact hI) ?_ (fun q => ?_)
  · rw [h1]
    exact hCK.fr hI.1 hJ (fun a q => by unfold bc at q; unfold mk5 scr; omega)
  · rw [h1]
    exact ⟨agr_all hN ha _ _, fun M hM => agr_Ca hN ha (fun w hw => all_mem hN hw) hM⟩
