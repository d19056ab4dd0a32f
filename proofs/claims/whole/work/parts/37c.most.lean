/-! mostBy -/
def soP (N : Int → Int) (day p x : Int) : Prop := ∃ w, w ∈ allW N (abB N z0 day 0) ∧ ∀ t, 0 ≤ t → t < N 3 → mt x t.toNat = true → w t = p
theorem so_iff {N : Int → Int} (hN : Inv N) {day p x : Int} {v : Int → Int} : v ∈ allW N (fun s q => abB N z0 day 0 s q && (!(mt x s.toNat) || decide (q = p))) ↔ v ∈ allW N (abB N z0 day 0) ∧ ∀ t, 0 ≤ t → t < N 3 → mt x t.toNat = true → v t = p := by
  have hH := hN.1
  unfold InvH at hH
  unfold allW
  rw [wl_flt (by omega)]
  refine and_congr_right (fun _ => ⟨fun h t t0 t1 hm => ?_, fun h t t0 t1 => ?_⟩)
  · have := h t t0 (by omega)
    rw [hm] at this
    simpa using this
  · cases hm : mt x t.toNat with
    | false => rfl
    | true =>
      have := h t t0 (by omega) hm
      rw [this]
      simp
/-- 140 mostBy -/
theorem c_mostBy {d : Nat} {I : mj_I} {S : mj_S} {Q : mj_Q} (hS : mk_Sh S) {N : Int → Int} {day : Int} (hN : Inv N) (hO : OS N day I) (p : Int) (hp : 0 ≤ p ∧ p < N 2) (hd : 9 < d)
    (h : ∀ J, fr (fun a => a = 103 ∨ a = 108) I J → Q (some (.inl (mst N p (allW N (abB N z0 day 0))))) J S) : mj_C d 140 [.inr 101, .inl p] I S Q := by
  have hH := hN.1
  unfold InvH at hH
  have i1 : I 101 1 = N 3 := hO.1.2.1
  have b1 : mj_shl 1 (N 3) = ((2 ^ (N 3).toNat : Nat) : Int) := by
    have e := shl_2 (N 3).toNat (by omega)
    rw [show (((N 3).toNat : Nat) : Int) = N 3 by omega] at e
    exact e
  have b2 : 1 ≤ 2 ^ (N 3).toNat ∧ 2 ^ (N 3).toNat ≤ 64 := by
    have : ∀ n, n < 7 → 1 ≤ 2 ^ n ∧ 2 ^ n ≤ 64 := by decide
    exact this _ (by omega)
  generalize hz : 2 ^ (N 3).toNat = z at *
  have mb := mst_b (N := N) (p := p) (by omega) (allW N (abB N z0 day 0))
  have loop : ∀ m k : Nat, k + m = z → ∀ (mo zz kk : Int) (J : mj_I), kk = k → zz = z → fr (fun a => a = 103 ∨ a = 108) I J → (0 ≤ mo ∧ mo ≤ mst N p (allW N (abB N z0 day 0))) → (∀ j : Nat, j < k → soP N day p j → pc7 j ≤ mo) →
      xW d 140 9 [some (.inr (7, 0, 101, 0)), some (.inl p), some (.inl mo), some (.inl zz), some (.inl kk)] [] J S Q := by
    intro m
    induction m with
    | zero =>
      intro k hk mo zz kk J h1 h2 hJ hm hs
      refine x_hd false [9] 30 ?_
      (repeat' (first | with_reducible assumption | with_reducible exact rfl | with_reducible exact trivial | (with_reducible (show (_ : Int) ≤ _); omega) | (with_reducible (show (_ : Int) < _); omega) | (with_reducible (show (_ : Nat) < _); omega) | (with_reducible (show (_ : Nat) ≤ _); omega) | with_reducible exact Or.inl rfl | with_reducible exact Or.inr rfl | with_reducible exact Or.inl trivial | with_reducible exact Or.inr trivial | (intro hz; exact absurd hz (by decide)) | (intro hz; exfalso; omega) | refine And.intro ?_ ?_ | intro _))
      refine Qe (h J hJ) ?_
      by_cases e0 : 0 < mst N p (allW N (abB N z0 day 0))
      · obtain ⟨w, hw, eo⟩ := mst_at e0
        have h7 := ocS_7 (w := w) (p := p) (N 3).toNat (by omega)
        obtain ⟨x, hx⟩ := Int.eq_ofNat_of_zero_le h7.1
        have hxt : ∀ i : Nat, i < 32 → mt ((x : Nat) : Int) i = (decide (i < (N 3).toNat) && decide (w i = p)) := fun i hi => by rw [← hx]; exact ocS_t (N 3).toNat (by omega) i hi
        have hxz : x < z := by
          rw [← hz]
          refine lt_pow (N 3).toNat (by omega) x (by have := h7.2; omega) (fun i hi hn => ?_)
          rw [hxt i (by omega), decide_eq_false (by omega)]
          rfl
        have := hs x (by omega) ⟨w, hw, fun t t0 t1 ht => by
          rw [hxt t.toNat (by omega), decide_eq_true (show t.toNat < (N 3).toNat by omega), Bool.true_and, decide_eq_true_eq, show ((t.toNat : Nat) : Int) = t by omega] at ht
          exact ht⟩
        have e7 : pc7 ((x : Nat) : Int) = occ N w p := by
          have a := pcn_hi (x := ((x : Nat) : Int)) (n := (N 3).toNat) (fun i hi => by
            rcases Nat.lt_or_ge i 32 with q | q
            · rw [hxt i q, decide_eq_false (by omega)]; rfl
            · exact mt_big q) (7 - (N 3).toNat)
          rw [show (N 3).toNat + (7 - (N 3).toNat) = 7 by omega] at a
          unfold pc7 occ
          rw [a]
          exact oc_pc _ (fun i hi => by rw [hxt i (by omega), decide_eq_true hi, Bool.true_and])
        omega
      · omega
    | succ m ih =>
      intro k hk mo zz kk J h1 h2 hJ hm hs
      subst h1
      subst h2
      have hb : (0 ≤ pc7 (k : Int)) := (pc7_b _).1
      have hkt : ∀ i : Nat, (N 3).toNat ≤ i → mt (k : Int) i = false := fun i hi => pow_lt (n := (N 3).toNat) (by omega) (by omega) hi
      have hle : soP N day p k → pc7 (k : Int) ≤ mst N p (allW N (abB N z0 day 0)) := by
        intro ⟨w, hw, hq⟩
        have a := pcn_hi (x := (k : Int)) (n := (N 3).toNat) hkt (7 - (N 3).toNat)
        rw [show (N 3).toNat + (7 - (N 3).toNat) = 7 by omega] at a
        have b := pc_occ (x := (k : Int)) (p := p) (w := w) (N 3).toNat (fun i hi ht => hq i (by omega) (by omega) ht)
        have c := mst_ge (N := N) (p := p) hw
        unfold pc7
        unfold occ at c
        omega
      have nxt : ∀ (y : Int) (K : mj_I), fr (fun a => a = 103 ∨ a = 108) I K → (0 ≤ y ∧ y ≤ mst N p (allW N (abB N z0 day 0))) → mo ≤ y → (soP N day p k → pc7 (k : Int) ≤ y) → xW d 140 9 [some (.inr (7, 0, 101, 0)), some (.inl p), some (.inl y), some (.inl (z : Int)), some (.inl ((k : Int) + 1))] [] K S Q := by
        intro y K hK hy hmy hk2
        refine ih (k + 1) (by omega) y _ _ K (by omega) rfl hK hy (fun j hj hs2 => ?_)
        by_cases e : j = k
        · subst e; exact hk2 hs2
        · have := hs j (by omega) hs2; omega
      refine x_hd false [9] 40 ?_
      (repeat' (first | refine c_bits _ (by unfold mt7; omega) ?_ | refine c_leaveTo hS hN (hO.fr hJ) _ _ hp ?_ | with_reducible assumption | with_reducible exact rfl | with_reducible exact trivial | (with_reducible (show (_ : Int) ≤ _); omega) | (with_reducible (show (_ : Int) < _); omega) | (with_reducible (show (_ : Nat) < _); omega) | (with_reducible (show (_ : Nat) ≤ _); omega) | with_reducible exact Or.inl rfl | with_reducible exact Or.inr rfl | with_reducible exact Or.inl trivial | with_reducible exact Or.inr trivial | (intro hz; exact absurd hz (by decide)) | (intro hz; exfalso; omega) | refine And.intro ?_ ?_ | intro _))
      · exact nxt mo J hJ hm (by omega) (fun _ => by omega)
      · rename_i z1 J2 hJ2 hSR
        have hJ3 : fr (fun a => a = 103 ∨ a = 108) I J2 := hJ.tr (hJ2.mo (fun a q => Or.inl q))
        refine c_any hN hS (N 3).toNat 0 nb (by omega) (hO.1.fr hJ3) (by omega) (by omega) (fun q q0 q1 => by omega) hSR (fun K v l hK hw hr => ?_) (fun K hK hw => ?_)
        · have hso : soP N day p k := by
            have hv : v ∈ allW N (fun s q => abB N z0 day 0 s q && (!(mt (k : Int) s.toNat) || decide (q = p))) := by
              show v ∈ wl _ _ _ _ _
              rw [hw]
              exact List.mem_cons_self
            exact ⟨v, (so_iff hN).mp hv⟩
          have := hle hso
          (repeat' (first | refine c_bits _ (by unfold mt7; omega) ?_ | with_reducible assumption | with_reducible exact rfl | with_reducible exact trivial | (with_reducible (show (_ : Int) ≤ _); omega) | (with_reducible (show (_ : Int) < _); omega) | (with_reducible (show (_ : Nat) < _); omega) | (with_reducible (show (_ : Nat) ≤ _); omega) | with_reducible exact Or.inl rfl | with_reducible exact Or.inr rfl | with_reducible exact Or.inl trivial | with_reducible exact Or.inr trivial | (intro hz; exact absurd hz (by decide)) | (intro hz; exfalso; omega) | refine And.intro ?_ ?_ | intro _))
          exact nxt _ K (hJ3.tr hK.1) ⟨hb, this⟩ (by omega) (fun _ => Int.le_refl _)
        · (repeat' (first | with_reducible assumption | with_reducible exact rfl | with_reducible exact trivial | (with_reducible (show (_ : Int) ≤ _); omega) | (with_reducible (show (_ : Int) < _); omega) | (with_reducible (show (_ : Nat) < _); omega) | (with_reducible (show (_ : Nat) ≤ _); omega) | with_reducible exact Or.inl rfl | with_reducible exact Or.inr rfl | with_reducible exact Or.inl trivial | with_reducible exact Or.inr trivial | (intro hz; exact absurd hz (by decide)) | (intro hz; exfalso; omega) | refine And.intro ?_ ?_ | intro _))
          refine nxt mo K (hJ3.tr hK.1) hm (by omega) (fun ⟨w, h1, h2⟩ => ?_)
          have hv := (so_iff hN).mpr ⟨h1, h2⟩
          have e : allW N (fun s q => abB N z0 day 0 s q && (!(mt (k : Int) s.toNat) || decide (q = p))) = [] := hw
          rw [e] at hv
          cases hv
  refine x_C false [.inr (7, 0, 101, 0), .inl p] [9] 30 hS ⟨xok_fi hS, trivial, trivial⟩ ?_
  (repeat' (first | with_reducible assumption | with_reducible exact rfl | with_reducible exact trivial | (with_reducible (show (_ : Int) ≤ _); omega) | (with_reducible (show (_ : Int) < _); omega) | (with_reducible (show (_ : Nat) < _); omega) | (with_reducible (show (_ : Nat) ≤ _); omega) | with_reducible exact Or.inl rfl | with_reducible exact Or.inr rfl | with_reducible exact Or.inl trivial | with_reducible exact Or.inr trivial | (intro hz; exact absurd hz (by decide)) | (intro hz; exfalso; omega) | refine And.intro ?_ ?_ | intro _))
  refine loop (z - 1) 1 (by omega) _ _ _ _ (by rfl) (by rw [i1]; exact b1) fr.refl (by omega) (fun j hj _ => ?_)
  have : j = 0 := by omega
  subst this
  decide +kernel
