/-! sweeps -/
def swX (a : Nat) : Prop := a = 150 ∨ a = 155 ∨ (162 ≤ a ∧ a ≤ 169)
/-- what has been set by sweeps(day) -/
def swZ (I : mj_I) (day : Int) (J : mj_I) : Prop := fr swX I J ∧ (∀ k, k ≠ 26 → k ≠ 27 → k ≠ 28 → k ≠ 31 → k ≠ 32 → J 150 k = I 150 k) ∧ J 150 26 = day ∧ J 150 27 = I 150 4
theorem swZ.s {I J K : mj_I} {day : Int} (h : swZ I day J) (hf : fr swX J K) (h1 : ∀ k, k ≠ 28 → k ≠ 31 → k ≠ 32 → K 150 k = J 150 k) : swZ I day K := ⟨h.1.tr hf, fun k a b c d e => by rw [h1 k c d e, h.2.1 k a b c d e], by rw [h1 26 (by omega) (by omega) (by omega)]; exact h.2.2.1, by rw [h1 27 (by omega) (by omega) (by omega)]; exact h.2.2.2⟩
theorem swZ.o {I J K : mj_I} {day : Int} (h : swZ I day J) (hf : fr (fun a => a = 155 ∨ (162 ≤ a ∧ a ≤ 169)) J K) : swZ I day K := h.s (hf.mo (fun a q => by unfold swX; omega)) (fun k _ _ _ => hf.f (by omega) k)
/-- 250 sweeps -/
theorem m_sweeps {d : Nat} {I : mj_I} {S : mj_S} {Q : mj_Q} (hS : mk_Sh S) (hN : Inv (rd I 151)) (hM : RM I) (hCa : RCa I) (day : Int) (hd : 4 < d)
    (h : ∀ J, swZ I day J → CaOK (rd I 151) (allW (rd I 151) (abB (rd I 151) z0 day 0)) J → Q none J S) : mj_C d 250 [.inr 150, .inl day] I S Q := by
  have hH := hN.1
  unfold InvH at hH
  generalize hL0 : allW (rd I 151) (abB (rd I 151) z0 day 0) = L0 at h
  have hlen : L0.length ≤ 117649 := by rw [← hL0]; exact wl_len2 (by omega) (by omega)
  have stop : ∀ (J : mj_I) (w : Option xV), swZ I day J → CaOK (rd I 151) L0 J → xW d 250 79 [some (.inr (13, 0, 150, 0)), some (.inl day), some (.inl (-1)), w] [] J S Q := by
    intro J w hJ hC
    refine x_hd false [79] 20 ?_
    (repeat' (first | with_reducible assumption | with_reducible exact rfl | with_reducible exact trivial | (with_reducible (show (_ : Int) ≤ _); omega) | (with_reducible (show (_ : Int) < _); omega) | (with_reducible (show (_ : Nat) < _); omega) | (with_reducible (show (_ : Nat) ≤ _); omega) | with_reducible exact Or.inl rfl | with_reducible exact Or.inr rfl | with_reducible exact Or.inl trivial | with_reducible exact Or.inr trivial | (intro hz; exact absurd hz (by decide)) | (intro hz; exfalso; omega) | refine And.intro ?_ ?_ | intro _))
    exact h J hJ hC
  have while1 : ∀ (R P : List (Int → Int)) (v : Int → Int) (J : mj_I) (w : Option xV), L0 = P ++ v :: R → allW (rd I 151) (fun s p => mt (rd J 164 s) p.toNat) = L0 → swZ I day J → (∀ s p, 0 ≤ s → s < rd I 151 3 → 0 ≤ p → p < rd I 151 2 → rd J 169 (7 * s + p) = costS (rd I 151) p s) → (∀ q, 0 ≤ q → q < 6 → rd J 155 q = v q) → CaOK (rd I 151) P J → xW d 250 79 [some (.inr (13, 0, 150, 0)), some (.inl day), some (.inl (rd I 151 3)), w] [] J S Q := by
    intro R
    induction R with
    | nil =>
      intro P v J w hL hB hJ hc hr hC
      have e151 : rd J 151 = rd I 151 := hJ.1.r (by unfold swX; omega)
      have hv : v ∈ allW (rd I 151) (fun s p => mt (rd J 164 s) p.toNat) := by rw [hB, hL]; exact List.mem_append_right _ List.mem_cons_self
      have hvm := all_mem hN hv
      have hvo : ∀ q, rd I 151 3 ≤ q → v q = -1 := fun q hq => (wl_mem (by omega) hv).1 q (Or.inr (by omega))
      have hrs := rs_all hN (by rw [hB, hL])
      have hPl : P.length ≤ 117649 := by rw [hL, List.length_append] at hlen; omega
      refine x_hd false [79] 40 ?_
      (repeat' (first | refine m_notes hS (by rw [e151]; exact hN) ?_ (w := v) (by rw [e151]; exact hvm) hr (by rw [e151]; exact hc) (P := P) (by rw [e151]; exact hC) hPl ?_ | with_reducible assumption | with_reducible exact rfl | with_reducible exact trivial | (with_reducible (show (_ : Int) ≤ _); omega) | (with_reducible (show (_ : Int) < _); omega) | (with_reducible (show (_ : Nat) < _); omega) | (with_reducible (show (_ : Nat) ≤ _); omega) | with_reducible exact Or.inl rfl | with_reducible exact Or.inr rfl | with_reducible exact Or.inl trivial | with_reducible exact Or.inr trivial | (intro hz; exact absurd hz (by decide)) | (intro hz; exfalso; omega) | refine And.intro ?_ ?_ | intro _))
      · rename_i K f1 f2 f3 hz
        have k151 : rd K 151 = rd I 151 := by rw [f1.r (by omega), e151]
        have k164 : rd K 164 = rd J 164 := f1.r (by omega)
        have k155 : rd K 155 = rd J 155 := f1.r (by omega)
        have k169 : rd K 169 = rd J 169 := f1.r (by omega)
        have hZ : swZ I day K := hJ.s (f1.mo (fun a q => by unfold swX; omega)) f2
        rw [e151] at f3
        have hcut : ∀ q, 0 ≤ q → q < 6 → rd K 155 q = cut v (rd K 151 3) q := by
          intro q q0 q1
          rw [k155, hr q q0 q1, k151]
          unfold cut
          by_cases e : 0 ≤ q ∧ q < rd I 151 3
          · rw [if_pos e]
          · rw [if_neg e, hvo q (by omega)]
        have e3 : rd I 151 3 = rd K 151 3 := by rw [k151]
        rw [e3]
        refine m_goN hS (by rw [k151]; exact hN) (by omega) (v := v) (by rw [← e3]; omega) (by rw [k151]; exact hvm) hcut (fun hl A hA => ?_) (fun u2 l2 hl A hA hrA => ?_)
        · (repeat' (first | with_reducible assumption | with_reducible exact rfl | with_reducible exact trivial | (with_reducible (show (_ : Int) ≤ _); omega) | (with_reducible (show (_ : Int) < _); omega) | (with_reducible (show (_ : Nat) < _); omega) | (with_reducible (show (_ : Nat) ≤ _); omega) | with_reducible exact Or.inl rfl | with_reducible exact Or.inr rfl | with_reducible exact Or.inl trivial | with_reducible exact Or.inr trivial | (intro hz; exact absurd hz (by decide)) | (intro hz; exfalso; omega) | refine And.intro ?_ ?_ | intro _))
          exact stop A _ (hZ.o (hA.mo (fun a q => by omega))) (by rw [hL]; exact f3.fr (hA.f (by omega) _) (hA.f (by omega) _) (hA.f (by omega) _) (hA.r (by omega)) (hA.r (by omega)) (hA.r (by omega)) (hA.r (by omega)))
        · rw [k151, k164, hrs] at hl
          cases hl
      · rename_i K f1 f2 f3 hz
        rw [e151] at f3
        exact stop K _ (hJ.s (f1.mo (fun a q => by unfold swX; omega)) f2) (by rw [hL]; exact f3)
    | cons u R ih =>
      intro P v J w hL hB hJ hc hr hC
      have e151 : rd J 151 = rd I 151 := hJ.1.r (by unfold swX; omega)
      have hv : v ∈ allW (rd I 151) (fun s p => mt (rd J 164 s) p.toNat) := by rw [hB, hL]; exact List.mem_append_right _ List.mem_cons_self
      have hvm := all_mem hN hv
      have hvo : ∀ q, rd I 151 3 ≤ q → v q = -1 := fun q hq => (wl_mem (by omega) hv).1 q (Or.inr (by omega))
      have hrs := rs_all hN (by rw [hB, hL])
      have hPl : P.length ≤ 117649 := by rw [hL, List.length_append] at hlen; omega
      refine x_hd false [79] 40 ?_
      (repeat' (first | refine m_notes hS (by rw [e151]; exact hN) ?_ (w := v) (by rw [e151]; exact hvm) hr (by rw [e151]; exact hc) (P := P) (by rw [e151]; exact hC) hPl ?_ | with_reducible assumption | with_reducible exact rfl | with_reducible exact trivial | (with_reducible (show (_ : Int) ≤ _); omega) | (with_reducible (show (_ : Int) < _); omega) | (with_reducible (show (_ : Nat) < _); omega) | (with_reducible (show (_ : Nat) ≤ _); omega) | with_reducible exact Or.inl rfl | with_reducible exact Or.inr rfl | with_reducible exact Or.inl trivial | with_reducible exact Or.inr trivial | (intro hz; exact absurd hz (by decide)) | (intro hz; exfalso; omega) | refine And.intro ?_ ?_ | intro _))
      · rename_i K f1 f2 f3 hz
        have k151 : rd K 151 = rd I 151 := by rw [f1.r (by omega), e151]
        have k164 : rd K 164 = rd J 164 := f1.r (by omega)
        have k155 : rd K 155 = rd J 155 := f1.r (by omega)
        have k169 : rd K 169 = rd J 169 := f1.r (by omega)
        have hZ : swZ I day K := hJ.s (f1.mo (fun a q => by unfold swX; omega)) f2
        rw [e151] at f3
        have hcut : ∀ q, 0 ≤ q → q < 6 → rd K 155 q = cut v (rd K 151 3) q := by
          intro q q0 q1
          rw [k155, hr q q0 q1, k151]
          unfold cut
          by_cases e : 0 ≤ q ∧ q < rd I 151 3
          · rw [if_pos e]
          · rw [if_neg e, hvo q (by omega)]
        have e3 : rd I 151 3 = rd K 151 3 := by rw [k151]
        rw [e3]
        refine m_goN hS (by rw [k151]; exact hN) (by omega) (v := v) (by rw [← e3]; omega) (by rw [k151]; exact hvm) hcut (fun hl A hA => ?_) (fun u2 l2 hl A hA hrA => ?_)
        · rw [k151, k164, hrs] at hl
          cases hl
        · rw [k151, k164, hrs] at hl
          injection hl with hl1 hl2
          subst hl1
          (repeat' (first | with_reducible assumption | with_reducible exact rfl | with_reducible exact trivial | (with_reducible (show (_ : Int) ≤ _); omega) | (with_reducible (show (_ : Int) < _); omega) | (with_reducible (show (_ : Nat) < _); omega) | (with_reducible (show (_ : Nat) ≤ _); omega) | with_reducible exact Or.inl rfl | with_reducible exact Or.inr rfl | with_reducible exact Or.inl trivial | with_reducible exact Or.inr trivial | (intro hz; exact absurd hz (by decide)) | (intro hz; exfalso; omega) | refine And.intro ?_ ?_ | intro _))
          rw [k151]
          exact ih (P ++ [v]) u A _ (by rw [hL, List.append_assoc]; rfl) (by rw [hA.r (by omega), k164]; exact hB) (hZ.o (hA.mo (fun a q => by omega))) (by rw [hA.r (by omega), k169]; exact hc) hrA (f3.fr (hA.f (by omega) _) (hA.f (by omega) _) (hA.f (by omega) _) (hA.r (by omega)) (hA.r (by omega)) (hA.r (by omega)) (hA.r (by omega)))
      · rename_i K f1 f2 f3 hz
        rw [hz] at hrs
        cases hrs
  have tail : ∀ (J : mj_I) (w2 w3 : Option xV), swZ I day J → J 150 28 = 0 → (∀ p, 0 ≤ p → p < 7 → rd J 167 p = 0 ∧ rd J 168 p = 0) → (∀ s p, 0 ≤ s → s < rd I 151 3 → 0 ≤ p → p < rd I 151 2 → rd J 169 (7 * s + p) = costS (rd I 151) p s) → xW d 250 69 [some (.inr (13, 0, 150, 0)), some (.inl day), w2, w3] [] J S Q := by
    intro J w2 w3 hJ h28 h0 hc
    have e151 : rd J 151 = rd I 151 := hJ.1.r (by unfold swX; omega)
    have e154 : rd J 154 = rd I 154 := hJ.1.r (by unfold swX; omega)
    refine x_hd false [79] 30 ?_
    (repeat' (first | refine m_findAble hS _ _ (by rw [e151]; exact hN) ?_ (fun A hA hab => ?_) | with_reducible assumption | with_reducible exact rfl | with_reducible exact trivial | (with_reducible (show (_ : Int) ≤ _); omega) | (with_reducible (show (_ : Int) < _); omega) | (with_reducible (show (_ : Nat) < _); omega) | (with_reducible (show (_ : Nat) ≤ _); omega) | with_reducible exact Or.inl rfl | with_reducible exact Or.inr rfl | with_reducible exact Or.inl trivial | with_reducible exact Or.inr trivial | (intro hz; exact absurd hz (by decide)) | (intro hz; exfalso; omega) | refine And.intro ?_ ?_ | intro _))
    refine m_begins hS (fun B hB hb => ?_)
    have b151 : rd B 151 = rd I 151 := by rw [hB.r (by omega), hA.r (by omega), e151]
    have b164 : rd B 164 = rd A 164 := hB.r (by omega)
    rw [e151, e154] at hab
    have ea : allW (rd B 151) (fun s p => mt (rd B 164 s) p.toNat) = L0 := by
      rw [b151, b164, all_B hN hab, all_M hN hM, hL0]
    have hZB : swZ I day B := (hJ.o (hA.mo (fun a q => by omega))).o (hB.mo (fun a q => by omega))
    have hC0 : CaOK (rd I 151) [] B := by
      refine ⟨by rw [hB.f (by omega), hA.f (by omega), h28]; rfl, (fun w l e => by cases e), fun p p0 p1 => ?_⟩
      rw [hB.r (by omega), hA.r (by omega), hB.r (by omega), hA.r (by omega)]
      exact h0 p p0 (by omega)
    (repeat' (first | with_reducible assumption | with_reducible exact rfl | with_reducible exact trivial | (with_reducible (show (_ : Int) ≤ _); omega) | (with_reducible (show (_ : Int) < _); omega) | (with_reducible (show (_ : Nat) < _); omega) | (with_reducible (show (_ : Nat) ≤ _); omega) | with_reducible exact Or.inl rfl | with_reducible exact Or.inr rfl | with_reducible exact Or.inl trivial | with_reducible exact Or.inr trivial | (intro hz; exact absurd hz (by decide)) | (intro hz; exfalso; omega) | refine And.intro ?_ ?_ | intro _))
    refine m_goes0 hS (by rw [b151]; exact hN) (by omega) hb (fun hl C hCf => ?_) (fun v l hl C hCf hr => ?_)
    · (repeat' (first | with_reducible assumption | with_reducible exact rfl | with_reducible exact trivial | (with_reducible (show (_ : Int) ≤ _); omega) | (with_reducible (show (_ : Int) < _); omega) | (with_reducible (show (_ : Nat) < _); omega) | (with_reducible (show (_ : Nat) ≤ _); omega) | with_reducible exact Or.inl rfl | with_reducible exact Or.inr rfl | with_reducible exact Or.inl trivial | with_reducible exact Or.inr trivial | (intro hz; exact absurd hz (by decide)) | (intro hz; exfalso; omega) | refine And.intro ?_ ?_ | intro _))
      rw [ea] at hl
      refine stop C _ (hZB.o (hCf.mo (fun a q => by omega))) ?_
      rw [hl]
      exact hC0.fr (hCf.f (by omega) _) (hCf.f (by omega) _) (hCf.f (by omega) _) (hCf.r (by omega)) (hCf.r (by omega)) (hCf.r (by omega)) (hCf.r (by omega))
    · (repeat' (first | with_reducible assumption | with_reducible exact rfl | with_reducible exact trivial | (with_reducible (show (_ : Int) ≤ _); omega) | (with_reducible (show (_ : Int) < _); omega) | (with_reducible (show (_ : Nat) < _); omega) | (with_reducible (show (_ : Nat) ≤ _); omega) | with_reducible exact Or.inl rfl | with_reducible exact Or.inr rfl | with_reducible exact Or.inl trivial | with_reducible exact Or.inr trivial | (intro hz; exact absurd hz (by decide)) | (intro hz; exfalso; omega) | refine And.intro ?_ ?_ | intro _))
      rw [b151]
      rw [ea] at hl
      refine while1 l [] v C _ hl ?_ (hZB.o (hCf.mo (fun a q => by omega))) (fun s p s0 s1 p0 p1 => ?_) hr (hC0.fr (hCf.f (by omega) _) (hCf.f (by omega) _) (hCf.f (by omega) _) (hCf.r (by omega)) (hCf.r (by omega)) (hCf.r (by omega)) (hCf.r (by omega)))
      · rw [hCf.r (by omega), ← b151]; exact ea
      · rw [hCf.r (by omega), hB.r (by omega), hA.r (by omega)]; exact hc s p s0 s1 p0 p1
  have costs : ∀ (m : Nat) (s : Int), 0 ≤ s → s + m = rd I 151 3 → ∀ (J : mj_I) (w : Option xV), swZ I day J → J 150 28 = 0 → (∀ p, 0 ≤ p → p < 7 → rd J 167 p = 0 ∧ rd J 168 p = 0) → (∀ u p, 0 ≤ u → u < s → 0 ≤ p → p < rd I 151 2 → rd J 169 (7 * u + p) = costS (rd I 151) p u) → xW d 250 39 [some (.inr (13, 0, 150, 0)), some (.inl day), some (.inl s), w] [] J S Q := by
    intro m
    induction m with
    | zero =>
      intro s s0 s1 J w hJ h28 h0 hc
      have e151 : rd J 151 = rd I 151 := hJ.1.r (by unfold swX; omega)
      refine x_hd false [39, 69] 30 ?_
      (repeat' (first | rw [e151] | with_reducible assumption | with_reducible exact rfl | with_reducible exact trivial | (with_reducible (show (_ : Int) ≤ _); omega) | (with_reducible (show (_ : Int) < _); omega) | (with_reducible (show (_ : Nat) < _); omega) | (with_reducible (show (_ : Nat) ≤ _); omega) | with_reducible exact Or.inl rfl | with_reducible exact Or.inr rfl | with_reducible exact Or.inl trivial | with_reducible exact Or.inr trivial | (intro hz; exact absurd hz (by decide)) | (intro hz; exfalso; omega) | refine And.intro ?_ ?_ | intro _))
      exact tail J _ _ hJ h28 h0 (fun u p u0 u1 => hc u p u0 (by omega))
    | succ m ih =>
      intro s s0 s1 J w hJ h28 h0 hc
      have e151 : rd J 151 = rd I 151 := hJ.1.r (by unfold swX; omega)
      have inner : ∀ (x : Nat) (p : Int), 0 ≤ p → p + x = rd I 151 2 → ∀ (K : mj_I), swZ I day K → K 150 28 = 0 → (∀ p, 0 ≤ p → p < 7 → rd K 167 p = 0 ∧ rd K 168 p = 0) → (∀ u q, 0 ≤ u → u < s → 0 ≤ q → q < rd I 151 2 → rd K 169 (7 * u + q) = costS (rd I 151) q u) → (∀ q, 0 ≤ q → q < p → rd K 169 (7 * s + q) = costS (rd I 151) q s) → xW d 250 47 [some (.inr (13, 0, 150, 0)), some (.inl day), some (.inl s), some (.inl p)] [] K S Q := by
        intro x
        induction x with
        | zero =>
          intro p p0 p1 K hK k28 k0 k1 k2
          have e151 : rd K 151 = rd I 151 := hK.1.r (by unfold swX; omega)
          refine x_hd false [39, 47] 30 ?_
          (repeat' (first | rw [e151] | with_reducible assumption | with_reducible exact rfl | with_reducible exact trivial | (with_reducible (show (_ : Int) ≤ _); omega) | (with_reducible (show (_ : Int) < _); omega) | (with_reducible (show (_ : Nat) < _); omega) | (with_reducible (show (_ : Nat) ≤ _); omega) | with_reducible exact Or.inl rfl | with_reducible exact Or.inr rfl | with_reducible exact Or.inl trivial | with_reducible exact Or.inr trivial | (intro hz; exact absurd hz (by decide)) | (intro hz; exfalso; omega) | refine And.intro ?_ ?_ | intro _))
          refine ih (s + 1) (by omega) (by omega) K _ hK k28 k0 (fun u q u0 u1 q0 q1 => ?_)
          by_cases e : u = s
          · rw [e]; exact k2 q q0 (by omega)
          · exact k1 u q u0 (by omega) q0 q1
        | succ x ihx =>
          intro p p0 p1 K hK k28 k0 k1 k2
          have e151 : rd K 151 = rd I 151 := hK.1.r (by unfold swX; omega)
          refine x_hd false [39, 47] 40 ?_
          (repeat' (first | rw [e151] | refine m_costOf hS _ _ (by rw [e151]; exact hN) ?_ ?_ ?_ ?_ | with_reducible assumption | with_reducible exact rfl | with_reducible exact trivial | (with_reducible (show (_ : Int) ≤ _); omega) | (with_reducible (show (_ : Int) < _); omega) | (with_reducible (show (_ : Nat) < _); omega) | (with_reducible (show (_ : Nat) ≤ _); omega) | with_reducible exact Or.inl rfl | with_reducible exact Or.inr rfl | with_reducible exact Or.inl trivial | with_reducible exact Or.inr trivial | (intro hz; exact absurd hz (by decide)) | (intro hz; exfalso; omega) | refine And.intro ?_ ?_ | intro _))
          rename_i A hA
          refine ihx (p + 1) (by omega) (by omega) _ (hK.o ((hA.mo (fun a q => by omega)).up (by omega) _ _)) (by rw [up_f (by omega), hA.f (by omega)]; exact k28) (fun q q0 q1 => ?_) (fun u q u0 u1 q0 q1 => ?_) (fun q q0 q1 => ?_)
          · rw [rd_uo (by omega), rd_uo (by omega), hA.r (by omega), hA.r (by omega)]; exact k0 q q0 q1
          · rw [rd_up (by omega) (by omega), ru_n (by omega), hA.r (by omega)]; exact k1 u q u0 u1 q0 q1
          · rw [rd_up (by omega) (by omega)]
            by_cases e : q = p
            · rw [e, ru_s]
            · rw [ru_n (by omega), hA.r (by omega)]; exact k2 q q0 (by omega)
      refine x_hd false [39, 47] 30 ?_
      (repeat' (first | rw [e151] | with_reducible assumption | with_reducible exact rfl | with_reducible exact trivial | (with_reducible (show (_ : Int) ≤ _); omega) | (with_reducible (show (_ : Int) < _); omega) | (with_reducible (show (_ : Nat) < _); omega) | (with_reducible (show (_ : Nat) ≤ _); omega) | with_reducible exact Or.inl rfl | with_reducible exact Or.inr rfl | with_reducible exact Or.inl trivial | with_reducible exact Or.inr trivial | (intro hz; exact absurd hz (by decide)) | (intro hz; exfalso; omega) | refine And.intro ?_ ?_ | intro _))
      exact inner (rd I 151 2).toNat 0 (by omega) (by omega) J hJ h28 h0 hc (fun q q0 q1 => by omega)
  have zeros : ∀ (m : Nat) (p : Int), 0 ≤ p → p + m = 7 → ∀ (J : mj_I) (w : Option xV), swZ I day J → J 150 28 = 0 → (∀ q, 0 ≤ q → q < p → rd J 167 q = 0 ∧ rd J 168 q = 0) → xW d 250 22 [some (.inr (13, 0, 150, 0)), some (.inl day), some (.inl p), w] [] J S Q := by
    intro m
    induction m with
    | zero =>
      intro p p0 p1 J w hJ h28 h0
      refine x_hd false [22, 39] 30 ?_
      (repeat' (first | with_reducible assumption | with_reducible exact rfl | with_reducible exact trivial | (with_reducible (show (_ : Int) ≤ _); omega) | (with_reducible (show (_ : Int) < _); omega) | (with_reducible (show (_ : Nat) < _); omega) | (with_reducible (show (_ : Nat) ≤ _); omega) | with_reducible exact Or.inl rfl | with_reducible exact Or.inr rfl | with_reducible exact Or.inl trivial | with_reducible exact Or.inr trivial | (intro hz; exact absurd hz (by decide)) | (intro hz; exfalso; omega) | refine And.intro ?_ ?_ | intro _))
      exact costs (rd I 151 3).toNat 0 (by omega) (by omega) J _ hJ h28 (fun q q0 q1 => h0 q q0 (by omega)) (fun u q u0 u1 => by omega)
    | succ m ih =>
      intro p p0 p1 J w hJ h28 h0
      refine x_hd false [22] 30 ?_
      (repeat' (first | with_reducible assumption | with_reducible exact rfl | with_reducible exact trivial | (with_reducible (show (_ : Int) ≤ _); omega) | (with_reducible (show (_ : Int) < _); omega) | (with_reducible (show (_ : Nat) < _); omega) | (with_reducible (show (_ : Nat) ≤ _); omega) | with_reducible exact Or.inl rfl | with_reducible exact Or.inr rfl | with_reducible exact Or.inl trivial | with_reducible exact Or.inr trivial | (intro hz; exact absurd hz (by decide)) | (intro hz; exfalso; omega) | refine And.intro ?_ ?_ | intro _))
      refine ih (p + 1) (by omega) (by omega) _ _ (hJ.o (((fr.refl (X := fun a => a = 155 ∨ (162 ≤ a ∧ a ≤ 169))).up (by omega) _ _).up (by omega) _ _)) (by rw [up_f (by omega), up_f (by omega)]; exact h28) (fun q q0 q1 => ?_)
      rw [rd_uo (a := 168) (b := 167) (by omega), rd_up (by omega) (by omega), rd_up (by omega) (by omega), rd_uo (by omega)]
      by_cases e : q = p
      · rw [e, ru_s, ru_s]; exact ⟨rfl, rfl⟩
      · rw [ru_n e, ru_n e]; exact h0 q q0 (by omega)
  refine x_C false [.inr (13, 0, 150, 0), .inl day] [22] 40 hS ⟨xok_m hS, trivial, trivial⟩ ?_
  have go : xW d 250 22 [some (.inr (13, 0, 150, 0)), some (.inl day), some (.inl 0), none] [] (mj_up (mj_up (mj_up I 150 26 day) 150 27 (mj_up I 150 26 day 150 4)) 150 28 0) S Q := by
    refine zeros 7 0 (by omega) (by omega) _ _ ⟨?_, fun k a b c d e => ?_, ?_, ?_⟩ (by rw [mj_up_s]) (fun q q0 q1 => by omega)
    · exact (((fr.refl (X := swX)).mu (Or.inl rfl) _ _).mu (Or.inl rfl) _ _).mu (Or.inl rfl) _ _
    · rw [mu_f (by omega), mu_f (by omega), mu_f (by omega)]
    · rw [mu_f (by omega), mu_f (by omega), mj_up_s]
    · rw [mu_f (by omega), mj_up_s, mu_f (by omega)]
  (repeat' (first | with_reducible assumption | with_reducible exact rfl | with_reducible exact trivial | (with_reducible (show (_ : Int) ≤ _); omega) | (with_reducible (show (_ : Int) < _); omega) | (with_reducible (show (_ : Nat) < _); omega) | (with_reducible (show (_ : Nat) ≤ _); omega) | with_reducible exact Or.inl rfl | with_reducible exact Or.inr rfl | with_reducible exact Or.inl trivial | with_reducible exact Or.inr trivial | (intro hz; exact absurd hz (by decide)) | (intro hz; exfalso; omega) | refine And.intro ?_ ?_ | intro _))
  · exact go
  · exact go
  · rename_i z1 z2
    refine h I ⟨fr.refl, fun k _ _ _ _ _ => rfl, z1, z2⟩ ?_
    have := hCa z2
    rw [z1, hL0] at this
    exact this
