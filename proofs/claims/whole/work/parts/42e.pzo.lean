/-! what a run of the parser gives -/
theorem okC_num {key : Int} {c : List Int} {d u : Int} (h : okC key c d) (hu : tk key u (cnv key u) ∧ 0 ≤ cnv key u) : okC key (c ++ [u]) (d + 1) := by
  have := okC_sn h hu.1 (fun q => by omega) (fun q => by omega)
  rw [if_pos hu.2] at this
  exact this
theorem okC_not {key : Int} {c : List Int} {d : Int} (h : okC key c d) (hd : 1 ≤ d) : okC key (c ++ [-33]) d := by
  have hu := cnv_not (key := key)
  have := okC_sn h hu.1 (fun q => by omega) (fun q => by omega)
  rw [hu.2, if_neg (by omega), if_pos rfl, Int.add_zero] at this
  exact this
theorem okC_sg {key x : Int} {c : List Int} {d : Int} (h : okC key c d) (hx : lev x ≤ 4) (hd : 2 ≤ d) : okC key (c ++ [-x]) (d - 1) := by
  have hu := cnv_sg (key := key) hx
  have := okC_sn h hu.1 (fun q => by omega) (fun q => by omega)
  rw [if_neg (by omega), if_neg hu.2.2] at this
  exact this
theorem nuV_b {T : Int → Int} {a : Int} : ∀ n : Nat, (∀ j : Nat, j < n → 48 ≤ T (a + j) ∧ T (a + j) ≤ 57) → 0 ≤ nuV T a n ∧ nuV T a n + 1 ≤ 10 ^ n
  | 0, _ => ⟨Int.le_refl _, Int.le_refl _⟩
  | n + 1, h => by
    have h1 := nuV_b n (fun j hj => h j (by omega))
    have h2 := h n (by omega)
    have e : (10 : Int) ^ (n + 1) = 10 ^ n * 10 := Int.pow_succ ..
    rw [e]
    unfold nuV
    omega
theorem nuV_4 {T : Int → Int} {L : Int} {s : tS} (hw : wfs T L s) (h2 : s.1.1 = 2) (h4 : s.1.2.2 - s.1.2.1 ≤ 4) : 0 ≤ nuV T s.1.2.1 (s.1.2.2 - s.1.2.1).toNat ∧ nuV T s.1.2.1 (s.1.2.2 - s.1.2.1).toNat ≤ 9999 := by
  have hb := nuV_b (T := T) (a := s.1.2.1) (s.1.2.2 - s.1.2.1).toNat (fun j hj => hw.2.2.2.2 h2 _ (by omega) (by omega))
  have h3 : (s.1.2.2 - s.1.2.1).toNat ≤ 4 := by omega
  have hp : ∀ n : Nat, n ≤ 4 → (10 : Int) ^ n ≤ 10000 := by decide
  have := hp _ h3
  omega
def pzO (T : Int → Int) (L key md : Int) (s : tS) (r : Bool) (s' : tS) : Prop := wfs T L s' ∧ s.1.2.1 ≤ s'.1.2.1 ∧ (r = true → (md ≤ 5 → s.1.2.1 < s'.1.2.1) ∧ ((s.2.1.length : Int) ≤ s'.2.1.length ∧ (s'.2.1.length : Int) - s.2.1.length ≤ s'.1.2.1 - s.1.2.1) ∧ (s.2.2 ≤ s'.2.2 ∧ s'.2.2 - s.2.2 ≤ s'.1.2.1 - s.1.2.1) ∧ ∀ d : Int, 0 ≤ d → okC key s.2.1 (if md ≤ 5 then d else d + 1) → okC key s'.2.1 (d + 1))
theorem len_sn {c : List Int} {u : Int} : ((c ++ [u]).length : Int) = c.length + 1 := by
  rw [List.length_append]
  rfl
theorem wfs_sn {T : Int → Int} {L : Int} (s : tS) (c : List Int) (n : Int) : wfs T L s ↔ wfs T L (s.1, c, n) := Iff.rfl
theorem pz_nx {T : Int → Int} {L : Int} {s : tS} (hw : wfs T L s) (hk : s.1.1 ≠ 0) (c : List Int) (n : Int) : wfs T L (nxS T L (s.1, c, n)) ∧ s.1.2.1 + 1 ≤ (nxS T L (s.1, c, n)).1.2.1 := by
  have h := wfs_nx (T := T) (L := L) (s.1, c, n) ⟨by show 0 ≤ s.1.2.2; have := hw.1; omega, hw.1.2.2⟩
  have h2 := hw.2.1 hk
  have h3 : s.1.2.2 ≤ (nxS T L (s.1, c, n)).1.2.1 := h.2
  exact ⟨h.1, by omega⟩
theorem PZ_ok {T : Int → Int} {L key : Int} (hk : 0 ≤ key ∧ key ≤ 2) : ∀ (f : Nat) (md o m : Int) (s : tS) (r : Bool) (s' : tS), PZ T L key f md o m s r s' → wfs T L s → pzO T L key md s r s'
  | 0, _, _, _, _, _, _, h, _ => False.elim h
  | f + 1, md, o, m, s, r, s', h, hw => by
    have ih := PZ_ok (T := T) (L := L) hk f
    have nof : ∀ {P : Prop}, (false = true → P) := fun q => absurd q (by decide)
    rcases h with ⟨h0, h4, (⟨hA, hr⟩ | ⟨s1, hA, hB⟩)⟩ | ⟨h0, h4, hn, hr, hs⟩ | ⟨h0, h4, hy, (⟨hA, hr⟩ | ⟨s1, hA, (⟨h12, hr, hs⟩ | ⟨h12, hB⟩)⟩)⟩ | ⟨h5, hk2, (⟨hle, hr, hs⟩ | ⟨hle, hr, hs⟩)⟩ | ⟨h5, hk2, (⟨hc, hr, hs⟩ | ⟨hc, hr, hs⟩)⟩ | ⟨h5, k1, k2, k3, hr, hs⟩ | ⟨h5, hk2, hc, (⟨hA, hr⟩ | ⟨s1, hA, hr, hs⟩)⟩ | ⟨h5, hk2, hc, (⟨hA, hr⟩ | ⟨s1, hA, (⟨hc2, hr, hs⟩ | ⟨hc2, hr, hs⟩)⟩)⟩ | ⟨h5, hk2, hc1, hc2, hr, hs⟩
    · subst hr
      have a1 := ih _ _ _ _ _ _ hA hw
      exact ⟨a1.1, a1.2.1, nof⟩
    · have a1 := ih _ _ _ _ _ _ hA hw
      have a2 := ih _ _ _ _ _ _ hB a1.1
      have b1 := a1.2.2 rfl
      refine ⟨a2.1, by have := a1.2.1; have := a2.2.1; omega, fun q => ?_⟩
      have b2 := a2.2.2 q
      have c0 := b1.1 (by omega)
      have c1 := b1.2.1
      have c2 := b2.2.1
      have c3 := b1.2.2.1
      have c4 := b2.2.2.1
      have c5 := a2.2.1
      refine ⟨fun _ => by omega, by omega, by omega, fun d d0 hO => ?_⟩
      rw [if_pos (by omega)] at hO
      have e1 := b1.2.2.2 d d0 (by rw [if_pos (by omega)]; exact hO)
      exact b2.2.2.2 d d0 (by rw [if_neg (by omega)]; exact e1)
    · subst hr hs
      refine ⟨hw, by omega, fun _ => ⟨fun q => by omega, by omega, by omega, fun d d0 hO => ?_⟩⟩
      rw [if_neg (by omega)] at hO
      exact hO
    · subst hr
      have nx : _ ∧ s.1.2.1 + 1 ≤ (nxS T L s).1.2.1 := pz_nx hw (by omega) s.2.1 s.2.2
      have a1 := ih _ _ _ _ _ _ hA nx.1
      exact ⟨a1.1, Int.le_trans (by omega) a1.2.1, nof⟩
    · subst hr hs
      have nx : _ ∧ s.1.2.1 + 1 ≤ (nxS T L s).1.2.1 := pz_nx hw (by omega) s.2.1 s.2.2
      have a1 := ih _ _ _ _ _ _ hA nx.1
      have b1 := a1.2.2 rfl
      have n2 := nx.2
      have c0 := b1.1 (by omega)
      have c1 : (s.2.1.length : Int) ≤ s1.2.1.length ∧ (s1.2.1.length : Int) - s.2.1.length ≤ s1.1.2.1 - (nxS T L s).1.2.1 := b1.2.1
      have c3 : s.2.2 ≤ s1.2.2 ∧ s1.2.2 - s.2.2 ≤ s1.1.2.1 - (nxS T L s).1.2.1 := b1.2.2.1
      refine ⟨a1.1, by show s.1.2.1 ≤ s1.1.2.1; omega, fun _ => ⟨fun q => by omega, ?_, ?_, fun d d0 hO => ?_⟩⟩
      · show (s.2.1.length : Int) ≤ (s1.2.1 ++ [-(T s.1.2.1)]).length ∧ ((s1.2.1 ++ [-(T s.1.2.1)]).length : Int) - s.2.1.length ≤ s1.1.2.1 - s.1.2.1
        rw [len_sn]; omega
      · show s.2.2 ≤ s1.2.2 ∧ s1.2.2 - s.2.2 ≤ s1.1.2.1 - s.1.2.1
        omega
      · rw [if_neg (by omega)] at hO
        have e1 := b1.2.2.2 (d + 1) (by omega) (by rw [if_pos (by omega)]; exact hO)
        have e2 := okC_sg (x := T s.1.2.1) e1 (by omega) (by omega)
        rw [show d + 1 + 1 - 1 = d + 1 by omega] at e2
        exact e2
    · have nx : _ ∧ s.1.2.1 + 1 ≤ (nxS T L s).1.2.1 := pz_nx hw (by omega) s.2.1 s.2.2
      have a1 := ih _ _ _ _ _ _ hA nx.1
      have b1 := a1.2.2 rfl
      have n2 := nx.2
      have c0 := b1.1 (by omega)
      have c1 : (s.2.1.length : Int) ≤ s1.2.1.length ∧ (s1.2.1.length : Int) - s.2.1.length ≤ s1.1.2.1 - (nxS T L s).1.2.1 := b1.2.1
      have c3 : s.2.2 ≤ s1.2.2 ∧ s1.2.2 - s.2.2 ≤ s1.1.2.1 - (nxS T L s).1.2.1 := b1.2.2.1
      have a2 := ih _ _ _ _ _ _ hB a1.1
      have a2' : s1.1.2.1 ≤ s'.1.2.1 := a2.2.1
      refine ⟨a2.1, by omega, fun q => ?_⟩
      have b2 := a2.2.2 q
      have c2 : ((s1.2.1 ++ [-(T s.1.2.1)]).length : Int) ≤ s'.2.1.length ∧ (s'.2.1.length : Int) - (s1.2.1 ++ [-(T s.1.2.1)]).length ≤ s'.1.2.1 - s1.1.2.1 := b2.2.1
      rw [len_sn] at c2
      have c4 : s1.2.2 ≤ s'.2.2 ∧ s'.2.2 - s1.2.2 ≤ s'.1.2.1 - s1.1.2.1 := b2.2.2.1
      refine ⟨fun q => by omega, by omega, by omega, fun d d0 hO => ?_⟩
      rw [if_neg (by omega)] at hO
      have e1 := b1.2.2.2 (d + 1) (by omega) (by rw [if_pos (by omega)]; exact hO)
      have e2 := okC_sg (x := T s.1.2.1) e1 (by omega) (by omega)
      rw [show d + 1 + 1 - 1 = d + 1 by omega] at e2
      exact b2.2.2.2 d d0 (by rw [if_neg (by omega)]; exact e2)
    · subst hr hs
      have nx := pz_nx hw (by omega) (s.2.1 ++ [nuV T s.1.2.1 (s.1.2.2 - s.1.2.1).toNat]) (s.2.2 + 1)
      have n2 := nx.2
      refine ⟨nx.1, Int.le_trans (by omega) n2, fun _ => ⟨fun _ => Int.lt_of_lt_of_le (by omega) n2, ?_, ?_, fun d d0 hO => ?_⟩⟩
      · show (s.2.1.length : Int) ≤ (s.2.1 ++ [nuV T s.1.2.1 (s.1.2.2 - s.1.2.1).toNat]).length ∧ ((s.2.1 ++ [nuV T s.1.2.1 (s.1.2.2 - s.1.2.1).toNat]).length : Int) - s.2.1.length ≤ (nxS T L (s.1, s.2.1 ++ [nuV T s.1.2.1 (s.1.2.2 - s.1.2.1).toNat], s.2.2 + 1)).1.2.1 - s.1.2.1
        rw [len_sn]; omega
      · show s.2.2 ≤ s.2.2 + 1 ∧ s.2.2 + 1 - s.2.2 ≤ (nxS T L (s.1, s.2.1 ++ [nuV T s.1.2.1 (s.1.2.2 - s.1.2.1).toNat], s.2.2 + 1)).1.2.1 - s.1.2.1
        omega
      · rw [if_pos (by omega)] at hO
        exact okC_num hO (cnv_num (nuV_4 hw hk2 hle))
    · subst hr hs
      exact ⟨hw, Int.le_refl _, nof⟩
    · subst hr hs
      have nx := pz_nx hw (by omega) (s.2.1 ++ [nmI key (T s.1.2.1)]) (s.2.2 + 1)
      have n2 := nx.2
      refine ⟨nx.1, Int.le_trans (by omega) n2, fun _ => ⟨fun _ => Int.lt_of_lt_of_le (by omega) n2, ?_, ?_, fun d d0 hO => ?_⟩⟩
      · show (s.2.1.length : Int) ≤ (s.2.1 ++ [nmI key (T s.1.2.1)]).length ∧ ((s.2.1 ++ [nmI key (T s.1.2.1)]).length : Int) - s.2.1.length ≤ (nxS T L (s.1, s.2.1 ++ [nmI key (T s.1.2.1)], s.2.2 + 1)).1.2.1 - s.1.2.1
        rw [len_sn]; omega
      · show s.2.2 ≤ s.2.2 + 1 ∧ s.2.2 + 1 - s.2.2 ≤ (nxS T L (s.1, s.2.1 ++ [nmI key (T s.1.2.1)], s.2.2 + 1)).1.2.1 - s.1.2.1
        omega
      · rw [if_pos (by omega)] at hO
        exact okC_num hO (cnv_nm hk hc.2)
    · subst hr hs
      exact ⟨hw, Int.le_refl _, nof⟩
    · subst hr hs
      exact ⟨hw, Int.le_refl _, nof⟩
    · subst hr
      have nx : _ ∧ s.1.2.1 + 1 ≤ (nxS T L s).1.2.1 := pz_nx hw (by omega) s.2.1 s.2.2
      have a1 := ih _ _ _ _ _ _ hA nx.1
      exact ⟨a1.1, Int.le_trans (by omega) a1.2.1, nof⟩
    · subst hr hs
      have nx : _ ∧ s.1.2.1 + 1 ≤ (nxS T L s).1.2.1 := pz_nx hw (by omega) s.2.1 s.2.2
      have a1 := ih _ _ _ _ _ _ hA nx.1
      have b1 := a1.2.2 rfl
      have n2 := nx.2
      have c0 := b1.1 (by omega)
      have c1 : (s.2.1.length : Int) ≤ s1.2.1.length ∧ (s1.2.1.length : Int) - s.2.1.length ≤ s1.1.2.1 - (nxS T L s).1.2.1 := b1.2.1
      have c3 : s.2.2 ≤ s1.2.2 ∧ s1.2.2 - s.2.2 ≤ s1.1.2.1 - (nxS T L s).1.2.1 := b1.2.2.1
      refine ⟨a1.1, by show s.1.2.1 ≤ s1.1.2.1; omega, fun _ => ⟨fun q => by show s.1.2.1 < s1.1.2.1; omega, ?_, ?_, fun d d0 hO => ?_⟩⟩
      · show (s.2.1.length : Int) ≤ (s1.2.1 ++ [-33]).length ∧ ((s1.2.1 ++ [-33]).length : Int) - s.2.1.length ≤ s1.1.2.1 - s.1.2.1
        rw [len_sn]; omega
      · show s.2.2 ≤ s1.2.2 ∧ s1.2.2 - s.2.2 ≤ s1.1.2.1 - s.1.2.1
        omega
      · rw [if_pos (by omega)] at hO
        have e1 := b1.2.2.2 d d0 (by rw [if_pos (by omega)]; exact hO)
        exact okC_not e1 (by omega)
    · subst hr
      have nx : _ ∧ s.1.2.1 + 1 ≤ (nxS T L s).1.2.1 := pz_nx hw (by omega) s.2.1 s.2.2
      have a1 := ih _ _ _ _ _ _ hA nx.1
      exact ⟨a1.1, Int.le_trans (by omega) a1.2.1, nof⟩
    · subst hr hs
      have nx : _ ∧ s.1.2.1 + 1 ≤ (nxS T L s).1.2.1 := pz_nx hw (by omega) s.2.1 s.2.2
      have a1 := ih _ _ _ _ _ _ hA nx.1
      have b1 := a1.2.2 rfl
      have n2 := nx.2
      have c0 := b1.1 (by omega)
      have nx2 : _ ∧ s1.1.2.1 + 1 ≤ (nxS T L s1).1.2.1 := pz_nx a1.1 (by omega) s1.2.1 s1.2.2
      have n3 := nx2.2
      have c1 : (s.2.1.length : Int) ≤ s1.2.1.length ∧ (s1.2.1.length : Int) - s.2.1.length ≤ s1.1.2.1 - (nxS T L s).1.2.1 := b1.2.1
      have c3 : s.2.2 ≤ s1.2.2 ∧ s1.2.2 - s.2.2 ≤ s1.1.2.1 - (nxS T L s).1.2.1 := b1.2.2.1
      refine ⟨nx2.1, by omega, fun _ => ⟨fun q => by omega, ?_, ?_, fun d d0 hO => ?_⟩⟩
      · show (s.2.1.length : Int) ≤ s1.2.1.length ∧ (s1.2.1.length : Int) - s.2.1.length ≤ (nxS T L s1).1.2.1 - s.1.2.1
        omega
      · show s.2.2 ≤ s1.2.2 ∧ s1.2.2 - s.2.2 ≤ (nxS T L s1).1.2.1 - s.1.2.1
        omega
      · rw [if_pos (by omega)] at hO
        exact b1.2.2.2 d d0 (by rw [if_pos (by omega)]; exact hO)
    · subst hr hs
      have nx : _ ∧ s.1.2.1 + 1 ≤ (nxS T L s).1.2.1 := pz_nx hw (by omega) s.2.1 s.2.2
      have a1 := ih _ _ _ _ _ _ hA nx.1
      exact ⟨a1.1, Int.le_trans (by omega) a1.2.1, nof⟩
    · subst hr hs
      exact ⟨hw, Int.le_refl _, nof⟩
