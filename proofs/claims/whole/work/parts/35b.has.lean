/-! hasWay -/
theorem all_B {N M : Int → Int} (hN : Inv N) {day mis : Int} {G : Int → Int} (h : ∀ s, 0 ≤ s → s < N 3 → G s = abN N M day mis s (N 2).toNat) : allW N (fun s p => mt (G s) p.toNat) = allW N (abB N M day mis) := by
  have hH := hN.1
  unfold InvH at hH
  unfold allW
  refine agr_wl hN (fun _ _ => rfl) (fun s p s0 s1 p0 p1 => ?_) _ 0 nb (by omega) (by omega) (nb_b (by omega))
  show mt (G s) p.toNat = abB N M day mis s p
  rw [h s s0 s1, abN_t _ (by omega) _ (by omega), decide_eq_true (by omega), Bool.true_and, show ((p.toNat : Nat) : Int) = p by omega]
theorem m_hasWay {d : Nat} {I : mj_I} {S : mj_S} {Q : mj_Q} (hS : mk_Sh S) (day mis : Int) (hN : Inv (rd I 151)) (hd : 4 < d)
    (hT : allW (rd I 151) (abB (rd I 151) (rd I 154) day mis) ≠ [] → ∀ J, fr (fun a => a = 155 ∨ a = 162 ∨ a = 163 ∨ a = 164) I J → Q (some (.inl 1)) J S)
    (hF : allW (rd I 151) (abB (rd I 151) (rd I 154) day mis) = [] → ∀ J, fr (fun a => a = 155 ∨ a = 162 ∨ a = 163 ∨ a = 164) I J → Q (some (.inl 0)) J S) : mj_C d 261 [.inr 150, .inl day, .inl mis] I S Q := by
  have hH := hN.1
  unfold InvH at hH
  refine x_C false [.inr (13, 0, 150, 0), .inl day, .inl mis] [] 30 hS ⟨xok_m hS, trivial, trivial, trivial⟩ ?_
  (repeat' (first | refine m_findAble hS _ _ hN ?_ (fun J hJ hab => ?_) | with_reducible assumption | with_reducible exact rfl | with_reducible exact trivial | (with_reducible (show (_ : Int) ≤ _); omega) | (with_reducible (show (_ : Int) < _); omega) | (with_reducible (show (_ : Nat) < _); omega) | (with_reducible (show (_ : Nat) ≤ _); omega) | with_reducible exact Or.inl rfl | with_reducible exact Or.inr rfl | with_reducible exact Or.inl trivial | with_reducible exact Or.inr trivial | (intro hz; exact absurd hz (by decide)) | (intro hz; exfalso; omega) | refine And.intro ?_ ?_ | intro _))
  refine m_begins hS (fun K hK hb => ?_)
  have f1 : rd K 151 = rd I 151 := by rw [hK.r (by omega), hJ.r (by omega)]
  have f4 : rd K 164 = rd J 164 := hK.r (by omega)
  have ea : allW (rd K 151) (fun s p => mt (rd K 164 s) p.toNat) = allW (rd I 151) (abB (rd I 151) (rd I 154) day mis) := by
    rw [f1, f4]
    exact all_B hN hab
  have hIK : fr (fun a => a = 155 ∨ a = 162 ∨ a = 163 ∨ a = 164) I K := fr.tr (hJ.mo (fun a q => by omega)) (hK.mo (fun a q => by omega))
  (repeat' (first | with_reducible assumption | with_reducible exact rfl | with_reducible exact trivial | (with_reducible (show (_ : Int) ≤ _); omega) | (with_reducible (show (_ : Int) < _); omega) | (with_reducible (show (_ : Nat) < _); omega) | (with_reducible (show (_ : Nat) ≤ _); omega) | with_reducible exact Or.inl rfl | with_reducible exact Or.inr rfl | with_reducible exact Or.inl trivial | with_reducible exact Or.inr trivial | (intro hz; exact absurd hz (by decide)) | (intro hz; exfalso; omega) | refine And.intro ?_ ?_ | intro _))
  refine m_goes0 hS (by rw [f1]; exact hN) (by omega) hb (fun hl A hA => ?_) (fun v l hl A hA _ => ?_)
  · (repeat' (first | with_reducible assumption | with_reducible exact rfl | with_reducible exact trivial | (with_reducible (show (_ : Int) ≤ _); omega) | (with_reducible (show (_ : Int) < _); omega) | (with_reducible (show (_ : Nat) < _); omega) | (with_reducible (show (_ : Nat) ≤ _); omega) | with_reducible exact Or.inl rfl | with_reducible exact Or.inr rfl | with_reducible exact Or.inl trivial | with_reducible exact Or.inr trivial | (intro hz; exact absurd hz (by decide)) | (intro hz; exfalso; omega) | refine And.intro ?_ ?_ | intro _))
    exact hF (by rw [← ea]; exact hl) A (hIK.tr (hA.mo (fun a q => by omega)))
  · have f3 : rd K 151 3 = rd I 151 3 := by rw [f1]
    (repeat' (first | rw [f3] | with_reducible assumption | with_reducible exact rfl | with_reducible exact trivial | (with_reducible (show (_ : Int) ≤ _); omega) | (with_reducible (show (_ : Int) < _); omega) | (with_reducible (show (_ : Nat) < _); omega) | (with_reducible (show (_ : Nat) ≤ _); omega) | with_reducible exact Or.inl rfl | with_reducible exact Or.inr rfl | with_reducible exact Or.inl trivial | with_reducible exact Or.inr trivial | (intro hz; exact absurd hz (by decide)) | (intro hz; exfalso; omega) | refine And.intro ?_ ?_ | intro _))
    exact hT (by rw [← ea, hl]; exact List.cons_ne_nil _ _) A (hIK.tr (hA.mo (fun a q => by omega)))
