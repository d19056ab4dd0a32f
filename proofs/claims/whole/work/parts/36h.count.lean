/-! the class's search: countFrom -/
theorem c_count {N : Int → Int} {B : Int → Int → Bool} (hN : Inv N) {S : mj_S} (hS : mk_Sh S) : ∀ (k : Nat) (s : Int) (W : Int → Int) {d : Nat} {I : mj_I} {Q : mj_Q}, k + 2 < d → FO N I → 0 ≤ s → s + k = N 3 → (∀ q, 0 ≤ q → q < s → 0 ≤ W q ∧ W q < N 2) → SR N B I W s → (∀ J, sF s I J → Q (some (.inl ((wl N B k s W).length : Int))) J S) → mj_C d 123 [.inr 101, .inl s] I S Q := by
  have hH := hN.1
  unfold InvH at hH
  intro k
  induction k with
  | zero =>
    intro s W d I Q hd hF s0 hk hW hR h
    have e1 : I 101 1 = N 3 := hF.2.1
    refine x_C false [.inr (7, 0, 101, 0), .inl s] [18] 30 hS ⟨xok_fi hS, trivial, trivial⟩ ?_
    (repeat' (first | with_reducible assumption | with_reducible exact rfl | with_reducible exact trivial | (with_reducible (show (_ : Int) ≤ _); omega) | (with_reducible (show (_ : Int) < _); omega) | (with_reducible (show (_ : Nat) < _); omega) | (with_reducible (show (_ : Nat) ≤ _); omega) | with_reducible exact Or.inl rfl | with_reducible exact Or.inr rfl | with_reducible exact Or.inl trivial | with_reducible exact Or.inr trivial | (intro hz; exact absurd hz (by decide)) | (intro hz; exfalso; omega) | refine And.intro ?_ ?_ | intro _))
    exact h I sF.rf
  | succ k ih =>
    intro s W d I Q hd hF s0 hk hW hR h
    have e1 : I 101 1 = N 3 := hF.2.1
    have hwl := wl_len2 (N := N) (B := B) (by omega) (k := k + 1) (by omega) (s := s) (W := W)
    generalize hT0 : ((wl N B (k + 1) s W).length : Int) = T at h
    have loop : ∀ (j : Nat) (p : Int), 0 ≤ p → p + j = N 2 → ∀ (x tt al : Int) (w : Option xV) (J : mj_I), mtn N x → (∀ p, 0 ≤ p → p < N 2 → (mt x p.toNat = true ↔ cdP N B W s p)) → (tt = 0 → utP N W s ∧ pcn x p.toNat = 0 ∧ al = 0) → 0 ≤ al → sF s I J → T = al + ((lv N B k s W p).length : Int) → xW d 123 18 [some (.inr (7, 0, 101, 0)), some (.inl s), some (.inl x), some (.inl tt), some (.inl al), some (.inl p), w] [] J S Q := by
      intro j
      induction j with
      | zero =>
        intro p p0 p1 x tt al w J hx hc hu ha hJ hl
        have j0 : J 101 0 = N 2 := by rw [hJ.1.f (by omega)]; exact hF.1
        refine x_hd false [18] 30 ?_
        (repeat' (first | with_reducible assumption | with_reducible exact rfl | with_reducible exact trivial | (with_reducible (show (_ : Int) ≤ _); omega) | (with_reducible (show (_ : Int) < _); omega) | (with_reducible (show (_ : Nat) < _); omega) | (with_reducible (show (_ : Nat) ≤ _); omega) | with_reducible exact Or.inl rfl | with_reducible exact Or.inr rfl | with_reducible exact Or.inl trivial | with_reducible exact Or.inr trivial | (intro hz; exact absurd hz (by decide)) | (intro hz; exfalso; omega) | refine And.intro ?_ ?_ | intro _))
        refine Qe (h J hJ) ?_
        rw [hl, lv_e (by omega)]
        show al + 0 = al
        omega
      | succ j ihj =>
        intro p p0 p1 x tt al w J hx hc hu ha hJ hl
        have j0 : J 101 0 = N 2 := by rw [hJ.1.f (by omega)]; exact hF.1
        have hFJ := hF.fr hJ.1
        have hRJ := hR.fr (by omega) hJ
        have hask : mj_and (mj_shr x p) 1 = 0 ↔ mt x p.toNat = false := ask0 (by omega)
        have hls := lv_sb (N := N) (B := B) (k := k) (s := s) (W := W) (p := p) (by omega)
        have hll : ((lv N B k s W p).length : Int) = ((sub N B k s W p).length : Int) + ((lv N B k s W (p + 1)).length : Int) := by rw [hls, List.length_append]; omega
        have hpc : pcn x (p + 1).toNat = pcn x p.toNat + (if mt x p.toNat = true then 1 else 0) := by
          rw [show (p + 1).toNat = p.toNat + 1 by omega]
          rfl
        have hct : ¬ mj_and (mj_shr x p) 1 = 0 → mt x p.toNat = true := fun z => by
          cases e : mt x p.toNat with
          | true => rfl
          | false => exact absurd (hask.mpr e) z
        have hsb : ¬ mj_and (mj_shr x p) 1 = 0 → sub N B k s W p = wl N B k (s + 1) (ru W s p) := fun z => sub_t hN (by omega) (by omega) ((hc p p0 (by omega)).mp (hct z))
        have h7 := hx.1
        have hp7 := pc7_b x
        have skip1 : mj_and (mj_shr x p) 1 = 0 → ∀ w, xW d 123 18 [some (.inr (7, 0, 101, 0)), some (.inl s), some (.inl x), some (.inl tt), some (.inl al), some (.inl (p + 1)), w] [] J S Q := by
          intro z w
          have z2 := hask.mp z
          have he : sub N B k s W p = [] := sub_f hN s0 (by omega) (by omega) hW (fun q => by rw [(hc p p0 (by omega)).mpr q] at z2; exact absurd z2 (by decide))
          rw [he] at hll
          rw [z2, if_neg (by decide)] at hpc
          refine ihj (p + 1) (by omega) (by omega) x tt al w J hx hc (fun q => ⟨(hu q).1, by rw [hpc, (hu q).2.1]; rfl, (hu q).2.2⟩) ha hJ ?_
          rw [hl, hll]
          show al + (((0 : Nat) : Int) + _) = _
          omega
        have more : ∀ (bh : Int) (K : mj_I), sF s I K → ¬ tt = 0 → bh = ((sub N B k s W p).length : Int) → xW d 123 18 [some (.inr (7, 0, 101, 0)), some (.inl s), some (.inl x), some (.inl tt), some (.inl (al + bh)), some (.inl (p + 1)), some (.inl bh)] [] K S Q := by
          intro bh K hK ht hb
          refine ihj (p + 1) (by omega) (by omega) x tt (al + bh) _ K hx hc (fun q => absurd q ht) (by omega) hK (by omega)
        have prod : ¬ mj_and (mj_shr x p) 1 = 0 → tt = 0 → ((sub N B k s W p).length : Int) * pc7 x = T := by
          intro z ht
          obtain ⟨hut, h0, ha0⟩ := hu ht
          have e := lv_al (N := N) (B := B) (k := k) (s := s) (W := W) (x := x) (c := (sub N B k s W p).length) (fun q q0 q1 hm => sub_f hN s0 (by omega) (by omega) hW (fun y => by rw [(hc q q0 q1).mpr y] at hm; exact absurd hm (by decide))) (fun q q0 q1 hm => by
            rw [sub_al hN s0 (by omega) hW hut (p := p) (q := q) (by omega) (by omega) ((hc p p0 (by omega)).mp (hct z)) ((hc q q0 q1).mp hm), List.length_map]) (j + 1) p p0 (by omega)
          rw [h0, ← pc7_n (by omega) hx, Int.sub_zero] at e
          rw [← e, hl, ha0]
          omega
        refine x_hd false [18] 60 ?_
        (repeat' (first | refine c_give hS hN k _ _ hFJ ?_ ?_ (by omega) ?_ hW hRJ ?_ ?_ | refine ih _ (ru W s p) ?_ (by assumption) ?_ (by omega) (ru_W2 hW (by omega)) (by assumption) ?_ | refine c_bits _ h7 ?_ | with_reducible assumption | with_reducible exact rfl | with_reducible exact trivial | (with_reducible (show (_ : Int) ≤ _); omega) | (with_reducible (show (_ : Int) < _); omega) | (with_reducible (show (_ : Nat) < _); omega) | (with_reducible (show (_ : Nat) ≤ _); omega) | with_reducible exact Or.inl rfl | with_reducible exact Or.inr rfl | with_reducible exact Or.inl trivial | with_reducible exact Or.inr trivial | (intro hz; exact absurd hz (by decide)) | (intro hz; exfalso; omega) | refine And.intro ?_ ?_ | intro _))
        · rename_i z
          exact skip1 z _
        · rename_i z _ _ _ _ _ _ _ _
          have := hsb z
          rw [this] at hll
          omega
        · rename_i z J2 f1 _ _ _ K f2 ht
          exact more _ K (hJ.tr (f1.tr f2.up)) ht (by rw [hsb z])
        · rename_i z _ _ _ _ _ _ _ ht
          have := prod z ht
          rw [hsb z] at this
          omega
        · rename_i z _ _ _ _ _ _ _ ht
          have := prod z ht
          rw [hsb z] at this
          omega
        · rename_i z J2 f1 _ _ _ K f2 ht
          have := prod z ht
          rw [hsb z] at this
          exact Qe (h K (hJ.tr (f1.tr f2.up))) this.symm
        · rename_i z K f1 hw _ ht
          exact more 0 K (hJ.tr f1) ht (by rw [hsb z, hw]; rfl)
        · rename_i z K f1 hw _ ht
          have := prod z ht
          rw [hsb z, hw] at this
          exact Qe (h K (hJ.tr f1)) this.symm
    have hT1 : T = 0 + ((lv N B k s W 0).length : Int) := by rw [← hT0, wl_lv]; omega
    refine x_C false [.inr (7, 0, 101, 0), .inl s] [18] 30 hS ⟨xok_fi hS, trivial, trivial⟩ ?_
    (repeat' (first | refine c_leftFor hS hN _ hF ?_ ?_ hW hR ?_ | refine c_isTied hS hN _ hF ?_ ?_ hW hR ?_ ?_ | with_reducible assumption | with_reducible exact rfl | with_reducible exact trivial | (with_reducible (show (_ : Int) ≤ _); omega) | (with_reducible (show (_ : Int) < _); omega) | (with_reducible (show (_ : Nat) < _); omega) | (with_reducible (show (_ : Nat) ≤ _); omega) | with_reducible exact Or.inl rfl | with_reducible exact Or.inr rfl | with_reducible exact Or.inl trivial | with_reducible exact Or.inr trivial | (intro hz; exact absurd hz (by decide)) | (intro hz; exfalso; omega) | refine And.intro ?_ ?_ | intro _))
    · rename_i x hx hc
      exact loop (N 2).toNat 0 (by omega) (by omega) x 1 0 _ I hx hc (fun q => absurd q (by decide)) (by omega) sF.rf hT1
    · rename_i x hx hc hu
      exact loop (N 2).toNat 0 (by omega) (by omega) x 0 0 _ I hx hc (fun _ => ⟨hu, rfl, rfl⟩) (by omega) sF.rf hT1
/-- 120 countAll -/
theorem c_countAll {d : Nat} {I : mj_I} {S : mj_S} {Q : mj_Q} (hS : mk_Sh S) {N : Int → Int} {day : Int} (hN : Inv N) (hO : OS N day I) (hd : 9 < d)
    (h : ∀ J, fr (fun a => a = 103 ∨ a = 108) I J → Q (some (.inl ((allW N (abB N z0 day 0)).length : Int))) J S) : mj_C d 120 [.inr 101] I S Q := by
  have hH := hN.1
  unfold InvH at hH
  refine x_C false [.inr (7, 0, 101, 0)] [] 30 hS ⟨xok_fi hS, trivial⟩ ?_
  (repeat' (first | refine c_leave hS hN hO _ _ ?_ (fun J hJ hl => ?_) | with_reducible assumption | with_reducible exact rfl | with_reducible exact trivial | (with_reducible (show (_ : Int) ≤ _); omega) | (with_reducible (show (_ : Int) < _); omega) | (with_reducible (show (_ : Nat) < _); omega) | (with_reducible (show (_ : Nat) ≤ _); omega) | with_reducible exact Or.inl rfl | with_reducible exact Or.inr rfl | with_reducible exact Or.inl trivial | with_reducible exact Or.inr trivial | (intro hz; exact absurd hz (by decide)) | (intro hz; exfalso; omega) | refine And.intro ?_ ?_ | intro _))
  have hJ2 : fr (fun a => a = 103 ∨ a = 108) I J := hJ.mo (fun a q => Or.inl q)
  refine c_count hN hS (B := abB N z0 day 0) (N 3).toNat 0 nb (by omega) (hO.1.fr hJ2) (by omega) (by omega) (fun q q0 q1 => by omega) (lv_SR hN hl (fun s p s0 s1 p0 p1 => ?_)) (fun K hK => ?_)
  · rw [show (if N (64 + 4 * s + 3) < 0 then (0 : Int) else 0) = 0 by split <;> rfl, mt_0]
    simp
  · (repeat' (first | with_reducible assumption | with_reducible exact rfl | with_reducible exact trivial | (with_reducible (show (_ : Int) ≤ _); omega) | (with_reducible (show (_ : Int) < _); omega) | (with_reducible (show (_ : Nat) < _); omega) | (with_reducible (show (_ : Nat) ≤ _); omega) | with_reducible exact Or.inl rfl | with_reducible exact Or.inr rfl | with_reducible exact Or.inl trivial | with_reducible exact Or.inr trivial | (intro hz; exact absurd hz (by decide)) | (intro hz; exfalso; omega) | refine And.intro ?_ ?_ | intro _))
    exact h K (hJ2.tr hK.1)
