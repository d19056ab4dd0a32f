/-! what holds between two calls -/
/-- the rows of texts hold texts, or nothing -/
def RX (S : mj_S) : Prop := ∀ b t : Nat, mB b → t < 14 → mj_rf S (b + 4) t = 0 ∨ (181 ≤ mj_rf S (b + 4) t ∧ mj_rf S (b + 4) t < mj_nx S ∧ mj_tg S (mj_rf S (b + 4) t) = 11)
def RO (L : Nat) (xs : Nat → Int32) (I : mj_I) (S : mj_S) : Prop := (∀ a, a < 20 → I a = mj_I0 xs a) ∧ ((∀ a, a < 20 → S.1 a = (mj_S0 L).1 a ∧ S.2.1 a = (mj_S0 L).2.1 a) ∧ RX S) ∧ (∀ k, 0 ≤ k → k < 11 → rd I 157 k = mj_nth 0 [109, 97, 121, 99, 111, 115, 116, 119, 97, 105, 116] k.toNat) ∧ rd I 158 0 = 0 ∧ rd I 158 1 = 3 ∧ rd I 158 2 = 7 ∧ rd I 158 3 = 11
def RI (I : mj_I) (S : mj_S) : Prop := (I 20 2 = 0 ∨ I 20 2 = 1) ∧ I 150 3 = I 20 2 ∧ (I 20 2 = 1 → Inv (rd I 152) ∧ Cb I S 61 (rd I 152))
def RT (I : mj_I) : Prop := I 115 1 = I 150 8 ∧ (0 ≤ I 150 8 ∧ I 150 8 ≤ 96) ∧ ∀ k, 0 ≤ k → k < I 150 8 → rd I 116 k = rd I 156 k ∧ 0 ≤ rd I 156 k ∧ rd I 156 k ≤ 255
def RW (I : mj_I) : Prop := I 20 9 = I 150 47 ∧ (0 ≤ I 150 47 ∧ I 150 47 ≤ 60) ∧ ∀ k, 0 ≤ k → k < I 150 47 → rd I 120 k = rd I 180 k
def RS1 (I : mj_I) (s : Int) : Prop := I (122 + 2 * s.toNat) 0 = rd I 172 s ∧ (-1 ≤ rd I 172 s ∧ rd I 172 s ≤ 1) ∧ I (122 + 2 * s.toNat) 1 = rd I 173 s ∧ (0 ≤ rd I 173 s ∧ rd I 173 s ≤ 24) ∧ ∀ k, 0 ≤ k → k < 24 → rd I (122 + 2 * s.toNat + 1) k = rd I 174 (24 * s + k)
def RSh (I : mj_I) : Prop := ∀ s, 0 ≤ s → s < 4 → RS1 I s
def RL1 (I : mj_I) (k : Int) : Prop := I (130 + 4 * k.toNat) 0 = rd I 175 k ∧ (0 ≤ rd I 175 k ∧ rd I 175 k ≤ 3)
  ∧ (rd I 175 k = 1 → I (130 + 4 * k.toNat + 1) 0 = rd I 176 k ∧ I (130 + 4 * k.toNat + 1) 3 = rd I 177 k ∧ (0 ≤ rd I 176 k ∧ rd I 176 k ≤ 5) ∧ (0 ≤ rd I 177 k ∧ rd I 177 k ≤ 9))
  ∧ (rd I 175 k = 2 → I (130 + 4 * k.toNat + 2) 1 = rd I 176 k ∧ (0 ≤ rd I 176 k ∧ rd I 176 k ≤ 24) ∧ ∀ i, 0 ≤ i → i < 24 → rd I (130 + 4 * k.toNat + 2 + 1) i = rd I 178 (24 * k + i))
  ∧ (rd I 175 k = 3 → I (130 + 4 * k.toNat) 1 = rd I 176 k)
def RSl (I : mj_I) : Prop := ∀ k, 0 ≤ k → k < 5 → RL1 I k
def RM (I : mj_I) : Prop := ∀ p, 0 ≤ p → p < 7 → rd I 154 p = 0
def RCa (I : mj_I) : Prop := I 150 27 = I 150 4 → CaOK (rd I 151) (allW (rd I 151) (abB (rd I 151) z0 (I 150 26) 0)) I
def RBd (n : Nat) (I : mj_I) (S : mj_S) : Prop := (-1 ≤ I 150 27 ∧ I 150 27 ≤ I 150 4) ∧ (0 ≤ I 150 4 ∧ I 150 4 ≤ 10 * n) ∧ n ≤ 64 ∧ mj_nx S ≤ 181 + 2 * n ∧ mj_sl S ≤ 7518 + 100 * n
def RA (I : mj_I) (S : mj_S) : Prop := Inv (rd I 151) ∧ Cb I S 21 (rd I 151)
def Rel (L : Nat) (xs : Nat → Int32) (n : Nat) (I : mj_I) (S : mj_S) : Prop := mk_Sh S ∧ RO L xs I S ∧ RA I S ∧ RI I S ∧ RT I ∧ RW I ∧ RSh I ∧ RSl I ∧ RM I ∧ RCa I ∧ RBd n I S
/-- cells that do not count between two calls -/
def scr (a : Nat) : Prop := (33 ≤ a ∧ a ≤ 35) ∨ (73 ≤ a ∧ a ≤ 75) ∨ (101 ≤ a ∧ a ≤ 114) ∨ a = 117 ∨ a = 121 ∨ a = 153 ∨ a = 155 ∨ (159 ≤ a ∧ a ≤ 164) ∨ (169 ≤ a ∧ a ≤ 171) ∨ a = 179
theorem CaOK.fr {N : Int → Int} {L : List (Int → Int)} {I J : mj_I} (h : CaOK N L I) (h1 : J 150 28 = I 150 28) (h2 : J 150 31 = I 150 31) (h3 : J 150 32 = I 150 32) (h4 : rd J 165 = rd I 165) (h5 : rd J 166 = rd I 166) (h6 : rd J 167 = rd I 167) (h7 : rd J 168 = rd I 168) : CaOK N L J := by
  unfold CaOK at h ⊢
  rw [h1, h2, h3, h4, h5, h6, h7]
  exact h
theorem Rel.fr {L : Nat} {xs : Nat → Int32} {n : Nat} {I J : mj_I} {S : mj_S} (h : Rel L xs n I S) (hf : fr scr I J) : Rel L xs n J S := by
  obtain ⟨hS, hO, hA, hI, hT, hW, hSh, hSl, hM, hC, hB⟩ := h
  have e : ∀ {a : Nat}, ¬ scr a → J a = I a := fun q => hf _ q
  have er : ∀ {a : Nat}, ¬ scr a → rd J a = rd I a := fun q => hf.r q
  have e20 : J 20 = I 20 := e (by unfold scr; omega)
  have e150 : J 150 = I 150 := e (by unfold scr; omega)
  have e115 : J 115 = I 115 := e (by unfold scr; omega)
  have r151 : rd J 151 = rd I 151 := er (by unfold scr; omega)
  have r152 : rd J 152 = rd I 152 := er (by unfold scr; omega)
  refine ⟨hS, ⟨fun a ha => ?_, hO.2.1, ?_⟩, ⟨?_, ?_⟩, ⟨?_, ?_, fun q => ?_⟩, ?_, ?_, fun s h0 h4 => ?_, fun k h0 h5 => ?_, ?_, ?_, ?_⟩
  · rw [e (by unfold scr; omega)]; exact hO.1 a ha
  · rw [er (a := 157) (by unfold scr; omega), er (a := 158) (by unfold scr; omega)]; exact hO.2.2
  · rw [r151]; exact hA.1
  · rw [r151]; exact hA.2.fr hA.1.1 hf (fun a q => by unfold bc at q; unfold scr; omega)
  · rw [e20]; exact hI.1
  · rw [e20, e150]; exact hI.2.1
  · rw [e20] at q
    rw [r152]
    exact ⟨(hI.2.2 q).1, (hI.2.2 q).2.fr (hI.2.2 q).1.1 hf (fun a q => by unfold bc at q; unfold scr; omega)⟩
  · unfold RT at hT ⊢
    rw [e115, e150, er (a := 116) (by unfold scr; omega), er (a := 156) (by unfold scr; omega)]
    exact hT
  · unfold RW at hW ⊢
    rw [e20, e150, er (a := 120) (by unfold scr; omega), er (a := 180) (by unfold scr; omega)]
    exact hW
  · have q := hSh s h0 h4
    unfold RS1 at q ⊢
    rw [e (a := 122 + 2 * s.toNat) (by unfold scr; omega), er (a := 122 + 2 * s.toNat + 1) (by unfold scr; omega), er (a := 172) (by unfold scr; omega), er (a := 173) (by unfold scr; omega), er (a := 174) (by unfold scr; omega)]
    exact q
  · have q := hSl k h0 h5
    unfold RL1 at q ⊢
    rw [e (a := 130 + 4 * k.toNat) (by unfold scr; omega), e (a := 130 + 4 * k.toNat + 1) (by unfold scr; omega), e (a := 130 + 4 * k.toNat + 2) (by unfold scr; omega), er (a := 130 + 4 * k.toNat + 2 + 1) (by unfold scr; omega), er (a := 175) (by unfold scr; omega), er (a := 176) (by unfold scr; omega), er (a := 177) (by unfold scr; omega), er (a := 178) (by unfold scr; omega)]
    exact q
  · unfold RM at hM ⊢
    rw [er (a := 154) (by unfold scr; omega)]
    exact hM
  · intro q
    rw [e150] at q ⊢
    rw [r151]
    exact (hC q).fr (by rw [e150]) (by rw [e150]) (by rw [e150]) (er (by unfold scr; omega)) (er (by unfold scr; omega)) (er (by unfold scr; omega)) (er (by unfold scr; omega))
  · unfold RBd at hB ⊢
    rw [e150]
    exact hB
theorem Rel.up {L : Nat} {xs : Nat → Int32} {n : Nat} {I : mj_I} {S : mj_S} (h : Rel L xs n I S) (hn : n < 64) : Rel L xs (n + 1) I S := by
  obtain ⟨hS, hO, hA, hI, hT, hW, hSh, hSl, hM, hC, hB⟩ := h
  refine ⟨hS, hO, hA, hI, hT, hW, hSh, hSl, hM, hC, ?_⟩
  unfold RBd at hB ⊢
  omega
/-- a call of the class and the same call of the reference answer alike -/
def Pair (L : Nat) (xs : Nat → Int32) (n xf mf : Nat) (as : List mj_V) : Prop := ∀ (I : mj_I) (S : mj_S), n < 64 → Rel L xs n I S → mj_C 400 xf (.inr 20 :: as) I S (fun r I' S' => ∃ v, r = some (.inl v) ∧ (I' 1 = I 1 ∧ S'.2.1 1 = S.2.1 1 ∧ S'.2.1 150 = S.2.1 150) ∧ mj_C 400 mf (.inr 150 :: as) I' S' (fun r' I'' S'' => r' = some (.inl v) ∧ Rel L xs (n + 1) I'' S''))
/-- calls that only read -/
theorem pair_ro {L : Nat} {xs : Nat → Int32} {n xf mf : Nat} {as : List mj_V} (f : (Int → Int) → mj_I → Int) (hf : ∀ I J, fr scr I J → f (rd I 151) I = f (rd I 151) J)
    (hc : ∀ I S (Q : mj_Q), Rel L xs n I S → (∀ I', fr scr I I' → Q (some (.inl (f (rd I 151) I))) I' S) → mj_C 400 xf (.inr 20 :: as) I S Q)
    (hm : ∀ I S (Q : mj_Q), Rel L xs n I S → (∀ I', fr scr I I' → Q (some (.inl (f (rd I 151) I))) I' S) → mj_C 400 mf (.inr 150 :: as) I S Q) : Pair L xs n xf mf as := by
  intro I S hn hR
  refine hc I S _ hR (fun J hJ => ⟨_, rfl, ⟨hJ 1 (by unfold scr; omega), rfl, rfl⟩, ?_⟩)
  have hR2 := hR.fr hJ
  refine hm J S _ hR2 (fun K hK => ⟨?_, (hR2.fr hK).up hn⟩)
  rw [hJ.r (a := 151) (by unfold scr; omega), hf I J hJ]
theorem Qe {Q : mj_Q} {I : mj_I} {S : mj_S} {x y : Int} (h : Q (some (.inl x)) I S) (e : x = y) : Q (some (.inl y)) I S := e ▸ h
