/-! takesE -/
theorem r_PZ {T : Int → Int} {L key : Int} (hkey : 0 ≤ key ∧ key ≤ 2) {I0 : mj_I} {d : Nat} {S : mj_S} (hS : mk_Sh S) {Q : mj_Q} (hkI : I0 150 14 = key) (hT0 : ∀ j, 0 ≤ j → j < L → rd I0 156 j = T j) (hL : I0 150 8 = L) (hL2 : 0 ≤ L ∧ L ≤ 96) (hd : 2 < d) : ∀ f : Nat, rA T L key I0 d S Q f ∧ rB T L key I0 d S Q f ∧ rC T L key I0 d S Q f
  | 0 => ⟨fun _ _ _ _ _ _ _ _ _ h => False.elim h, fun _ _ _ _ _ _ _ _ _ _ h => False.elim h, fun _ _ _ _ _ _ _ _ _ _ _ _ h => False.elim h⟩
  | f + 1 => by
    have ih := r_PZ (d := d) (Q := Q) hkey hS hkI hT0 hL hL2 hd f
    have a := r_A hkey hS hkI hT0 hL hL2 hd ih.1 ih.2.1
    exact ⟨a, r_B hkey a ih.2.1 ih.2.2, r_C hkey hS hT0 hL hL2 hd ih.2.1 ih.2.2⟩
theorem mK_rf {I : mj_I} : mK I I := ⟨fr.refl, fun _ _ => rfl, rfl⟩
/-- 240 takesE -/
theorem m_takesE {d : Nat} {I : mj_I} {S : mj_S} {Q : mj_Q} (hS : mk_Sh S) {T : Int → Int} {L key k a b : Int} (hkey : 0 ≤ key ∧ key ≤ 2) (hkI : I 150 14 = key) (hT0 : ∀ j, 0 ≤ j → j < L → rd I 156 j = T j) (hL : I 150 8 = L) (hL2 : 0 ≤ L ∧ L ≤ 96) (hd : 2 < d) (ht : tokR T I k a b) (hw : wfs T L ((k, a, b), [], 0)) (ha : 1 ≤ a) {f : Nat} {r : Bool} {s' : tS} (hz : PZ T L key f 0 0 0 ((k, a, b), [], 0) r s')
    (h1 : r = true → s'.1.1 = 0 → ∀ J, mK I J → mS J [] (s'.2.1.map (cnv key)) → J 150 19 = s'.2.2 → Q (some (.inl 1)) J S) (h0 : ¬ (r = true ∧ s'.1.1 = 0) → ∀ J, mK I J → J 150 10 = s'.1.2.1 → Q (some (.inl 0)) J S) : mj_C d 240 [.inr 150] I S Q := by
  have ok := PZ_ok hkey _ _ _ _ _ _ _ hz hw
  have hE : mE T I (up (mj_up (mj_up (mj_up I 150 18 0) 150 19 0) 150 21 0) 161 0 0) ((k, a, b), [], 0) [] (([] : List Int).map (cnv key)) := ⟨⟨(((fr.refl.mu (Or.inl rfl) _ _).mu (Or.inl rfl) _ _).mu (Or.inl rfl) _ _).up (Or.inr (Or.inr (Or.inr rfl))) _ _, fun j hj => by simp (disch := omega) only [rd_up, rd_uo, rd_mu, up_f, mu_f, mj_up_s, ru_s, ru_n], by simp (disch := omega) only [rd_up, rd_uo, rd_mu, up_f, mu_f, mj_up_s, ru_s, ru_n]⟩, ⟨tokR_cg (fun j ja jb => by simp (disch := omega) only [rd_up, rd_uo, rd_mu, up_f, mu_f, mj_up_s, ru_s, ru_n]) ht, by simp (disch := omega) only [rd_up, rd_uo, rd_mu, up_f, mu_f, mj_up_s, ru_s, ru_n]⟩, by simp (disch := omega) only [rd_up, rd_uo, rd_mu, up_f, mu_f, mj_up_s, ru_s, ru_n]; rfl, trivial, by simp (disch := omega) only [rd_up, rd_uo, rd_mu, up_f, mu_f, mj_up_s, ru_s, ru_n]; rfl, fun k hk => absurd hk (Nat.not_lt_zero _)⟩
  refine x_C false [.inr (13, 0, 150, 0)] [20] 60 hS ⟨xok_m hS, trivial⟩ ?_
  have z0 : rd (up (mj_up (mj_up (mj_up I 150 18 0) 150 19 0) 150 21 0) 161 0 0) 161 0 = 0 := by simp (disch := omega) only [rd_up, rd_uo, rd_mu, up_f, mu_f, mj_up_s, ru_s, ru_n]
  have go : xW d 240 20 [some (.inr (13, 0, 150, 0)), some (.inl 0), some (.inl 0), some (.inl 1), none] [] (up (mj_up (mj_up (mj_up I 150 18 0) 150 19 0) 150 21 0) 161 0 0) S Q := by
    refine (r_PZ hkey hS hkI hT0 hL hL2 hd f).2.1 0 0 0 _ r s' [] _ none (by omega) hz hw hE (fun x H' q => by cases q) rfl (by omega) ha (by show (0 : Int) ≤ 0 ∧ 0 ≤ a; omega) (Or.inl z0) (fun _ => z0) (fun hr => ?_) (fun hr J' j1 j2 => h0 (fun q => by rw [hr] at q; exact absurd q.1 (by decide)) J' j1 j2)
    intro J' P D x4 e1 e2 e3 e4 e5 e6 e7
    have eP : ∀ x, x ∈ P → x ≠ -11 ∧ 0 ≤ rk x := fun x q => by
      have := rk_b (e3 x q).1
      exact ⟨this.2.2, by omega⟩
    have hok := (ok.2.2 hr).2.1
    have hok1 : (0 : Int) ≤ s'.2.1.length ∧ (s'.2.1.length : Int) - 0 ≤ s'.1.2.1 - a := hok
    have hok2 := ok.1.1
    have hlen : ((P ++ []).length : Int) + D.length = s'.2.1.length := by
      have e := congrArg List.length e2
      rw [List.length_append, List.length_map] at e
      rw [List.length_append]
      show ((P.length + 0 : Nat) : Int) + _ = _
      omega
    have hnil : ∀ (lt : Int) (x : Int) (H' : List Int), ([] : List Int) = x :: H' → x = -11 ∨ rk x < lt := fun lt x H' q => by cases q
    by_cases k0 : s'.1.1 = 0
    · have t11 := (mT_0 e1.2.1).2 k0
      refine x_hd false [20] 60 ?_
      (repeat' (first | rw [t11] | refine mE_settle hS 0 (by omega) P [] D e1 eP (hnil 0) (by omega) (fun J2 j1 j2 => ?_) | with_reducible assumption | with_reducible exact rfl | with_reducible exact trivial | (with_reducible (show (_ : Int) ≤ _); omega) | (with_reducible (show (_ : Int) < _); omega) | (with_reducible (show (_ : Nat) < _); omega) | (with_reducible (show (_ : Nat) ≤ _); omega) | with_reducible exact Or.inl rfl | with_reducible exact Or.inr rfl | with_reducible exact Or.inl trivial | with_reducible exact Or.inr trivial | (intro hz; exact absurd hz (by decide)) | (intro hz; exfalso; omega) | refine And.intro ?_ ?_ | intro _))
      exact h1 hr k0 J2 j1.1 (by rw [← e2]; exact j1.2.2) j1.2.1.2
    · exact m_bad (key := key) hS ok.1 e1 eP (hnil 0) (by omega) (by omega) e7 (fun q => by omega) (fun q => absurd q k0) (by omega) (fun J2 j1 j2 => h0 (fun q => k0 q.2) J2 j1 j2)
  (repeat' (first | with_reducible assumption | with_reducible exact rfl | with_reducible exact trivial | (with_reducible (show (_ : Int) ≤ _); omega) | (with_reducible (show (_ : Int) < _); omega) | (with_reducible (show (_ : Nat) < _); omega) | (with_reducible (show (_ : Nat) ≤ _); omega) | with_reducible exact Or.inl rfl | with_reducible exact Or.inr rfl | with_reducible exact Or.inl trivial | with_reducible exact Or.inr trivial | (intro hz; exact absurd hz (by decide)) | (intro hz; exfalso; omega) | refine And.intro ?_ ?_ | intro _))
  exact go
