/-! goesOn: the loop goes through the list of ways -/
def lv (N : Int → Int) (B : Int → Int → Bool) (k : Nat) (s : Int) (W : Int → Int) (p : Int) : List (Int → Int) := wlp (fun p => if B s p = true ∧ fitB N (ru W s p) s = true then wl N B k (s + 1) (ru W s p) else []) (N 2 - p).toNat p
theorem lv_s {N : Int → Int} {B : Int → Int → Bool} {k : Nat} {s : Int} {W : Int → Int} {p : Int} (h : p < N 2) : lv N B k s W p = (if B s p = true ∧ fitB N (ru W s p) s = true then wl N B k (s + 1) (ru W s p) else []) ++ lv N B k s W (p + 1) := by
  unfold lv
  rw [show (N 2 - p).toNat = (N 2 - (p + 1)).toNat + 1 by omega]
  rfl
theorem lv_e {N : Int → Int} {B : Int → Int → Bool} {k : Nat} {s : Int} {W : Int → Int} {p : Int} (h : N 2 ≤ p) : lv N B k s W p = [] := by
  unfold lv
  rw [show (N 2 - p).toNat = 0 by omega]
  rfl
theorem fitB_c {N W W' : Int → Int} (hN : Inv N) (h : ∀ q, 0 ≤ q → q < N 3 → W q = W' q) (s : Int) : fitB N W s = fitB N W' s := by
  have hH := hN.1
  unfold InvH at hH
  have key : ∀ r : Nat, (r : Int) ≤ N 4 → fitN N W s r = fitN N W' s r := by
    intro r
    induction r with
    | zero => exact fun _ => rfl
    | succ r ih =>
      intro hr
      unfold fitN
      rw [ih (by omega), keptB_c hN (by omega) h]
  exact key _ (by omega)
/-- one level of the search -/
theorem m_goI {d : Nat} {I : mj_I} {S : mj_S} {Q : mj_Q} (hS : mk_Sh S) (hN : Inv (rd I 151)) (hd : 3 < d) (st : Int) (k : Nat) (s : Int) (W : Int → Int) (s0 : 0 ≤ s) (s1 : s + k + 1 = rd I 151 3) (hW : ∀ q, s ≤ q → W q = -1) (hWb : ∀ q, -1 ≤ W q ∧ W q < rd I 151 2)
    (sub : ∀ (p : Int) (W' : Int → Int), 0 ≤ p → p < rd I 151 2 → W' = ru W s p → ∀ (J : mj_I) (w : Option xV), fr (fun a => a = 155) I J → (∀ q, 0 ≤ q → q < 6 → rd J 155 q = W' q) → (wl (rd I 151) (fun s p => mt (rd I 164 s) p.toNat) k (s + 1) W' = [] → ∀ (A : mj_I) (w : Option xV), fr (fun a => a = 155) I A → (∀ q, 0 ≤ q → q < 6 → rd A 155 q = W' q) → xW d 253 2 [some (.inr (13, 0, 150, 0)), some (.inl st), some (.inl (s)), w] [] A S Q) → (∀ v l, wl (rd I 151) (fun s p => mt (rd I 164 s) p.toNat) k (s + 1) W' = v :: l → ∀ (A : mj_I) (w : Option xV), fr (fun a => a = 155) I A → (∀ q, 0 ≤ q → q < 6 → rd A 155 q = v q) → xW d 253 2 [some (.inr (13, 0, 150, 0)), some (.inl st), some (.inl (rd I 151 3)), w] [] A S Q) → xW d 253 2 [some (.inr (13, 0, 150, 0)), some (.inl st), some (.inl (s + 1)), w] [] J S Q) :
    ∀ (p : Int) (J : mj_I) (w : Option xV), 0 ≤ p → p ≤ rd I 151 2 → fr (fun a => a = 155) I J → (∀ q, 0 ≤ q → q < 6 → rd J 155 q = ru W s (p - 1) q) → (lv (rd I 151) (fun s p => mt (rd I 164 s) p.toNat) k s W p = [] → ∀ (A : mj_I) (w : Option xV), fr (fun a => a = 155) I A → (∀ q, 0 ≤ q → q < 6 → rd A 155 q = W q) → xW d 253 2 [some (.inr (13, 0, 150, 0)), some (.inl st), some (.inl (s - 1)), w] [] A S Q) → (∀ v l, lv (rd I 151) (fun s p => mt (rd I 164 s) p.toNat) k s W p = v :: l → ∀ (A : mj_I) (w : Option xV), fr (fun a => a = 155) I A → (∀ q, 0 ≤ q → q < 6 → rd A 155 q = v q) → xW d 253 2 [some (.inr (13, 0, 150, 0)), some (.inl st), some (.inl (rd I 151 3)), w] [] A S Q) → xW d 253 2 [some (.inr (13, 0, 150, 0)), some (.inl st), some (.inl (s)), w] [] J S Q := by
  have hH := hN.1
  unfold InvH at hH
  have to2 : ∀ (p : Int) (J : mj_I) (w : Option xV), 0 ≤ p → p ≤ rd I 151 2 → fr (fun a => a = 155) I J → (∀ q, 0 ≤ q → q < 6 → rd J 155 q = ru W s (p - 1) q) → xW d 253 17 [some (.inr (13, 0, 150, 0)), some (.inl st), some (.inl s), some (.inl p)] [] J S Q → xW d 253 2 [some (.inr (13, 0, 150, 0)), some (.inl st), some (.inl (s)), w] [] J S Q := by
    intro p J w p0 p1 hJ hr hg
    have e151 : rd J 151 = rd I 151 := hJ.r (by omega)
    have er : rd J 155 s = p - 1 := by rw [hr s s0 (by omega), ru_s]
    refine x_hd false [2, 17] 40 ?_
    (repeat' (first | rw [e151] | rw [er] | with_reducible assumption | with_reducible exact rfl | with_reducible exact trivial | (with_reducible (show (_ : Int) ≤ _); omega) | (with_reducible (show (_ : Int) < _); omega) | (with_reducible (show (_ : Nat) < _); omega) | (with_reducible (show (_ : Nat) ≤ _); omega) | with_reducible exact Or.inl rfl | with_reducible exact Or.inr rfl | with_reducible exact Or.inl trivial | with_reducible exact Or.inr trivial | (intro hz; exact absurd hz (by decide)) | (intro hz; exfalso; omega) | refine And.intro ?_ ?_ | intro _))
    rw [show p - 1 + 1 = p by omega]
    exact hg
  have inner : ∀ (x : Nat) (p : Int) (J : mj_I) (r : Int), 0 ≤ p → p + x = rd I 151 2 → fr (fun a => a = 155) I J → (∀ q, 0 ≤ q → q < 6 → rd J 155 q = ru W s r q) → (lv (rd I 151) (fun s p => mt (rd I 164 s) p.toNat) k s W p = [] → ∀ (A : mj_I) (w : Option xV), fr (fun a => a = 155) I A → (∀ q, 0 ≤ q → q < 6 → rd A 155 q = W q) → xW d 253 2 [some (.inr (13, 0, 150, 0)), some (.inl st), some (.inl (s - 1)), w] [] A S Q) → (∀ v l, lv (rd I 151) (fun s p => mt (rd I 164 s) p.toNat) k s W p = v :: l → ∀ (A : mj_I) (w : Option xV), fr (fun a => a = 155) I A → (∀ q, 0 ≤ q → q < 6 → rd A 155 q = v q) → xW d 253 2 [some (.inr (13, 0, 150, 0)), some (.inl st), some (.inl (rd I 151 3)), w] [] A S Q) → xW d 253 17 [some (.inr (13, 0, 150, 0)), some (.inl st), some (.inl s), some (.inl p)] [] J S Q := by
    intro x
    induction x with
    | zero =>
      intro p J r p0 p1 hJ hr hE hX
      have e151 : rd J 151 = rd I 151 := hJ.r (by omega)
      refine x_hd false [2, 17] 40 ?_
      (repeat' (first | rw [e151] | with_reducible assumption | with_reducible exact rfl | with_reducible exact trivial | (with_reducible (show (_ : Int) ≤ _); omega) | (with_reducible (show (_ : Int) < _); omega) | (with_reducible (show (_ : Nat) < _); omega) | (with_reducible (show (_ : Nat) ≤ _); omega) | with_reducible exact Or.inl rfl | with_reducible exact Or.inr rfl | with_reducible exact Or.inl trivial | with_reducible exact Or.inr trivial | (intro hz; exact absurd hz (by decide)) | (intro hz; exfalso; omega) | refine And.intro ?_ ?_ | intro _))
      refine hE (lv_e (by omega)) _ _ (hJ.up rfl _ _) (fun q q0 q1 => ?_)
      rw [rd_up (by omega) (by omega)]
      by_cases e : q = s
      · rw [e, ru_s, hW s (by omega)]
      · rw [ru_n e, hr q q0 q1, ru_n e]
    | succ x ihx =>
      intro p J r p0 p1 hJ hr hE hX
      have e151 : rd J 151 = rd I 151 := hJ.r (by omega)
      have e164 : rd J 164 = rd I 164 := hJ.r (by omega)
      have hls := lv_s (N := rd I 151) (B := fun s p => mt (rd I 164 s) p.toNat) (k := k) (s := s) (W := W) (p := p) (by omega)
      have hask : mj_and (mj_shr (rd I 164 s) p) 1 = 0 ↔ mt (rd I 164 s) p.toNat = false := ask0 (by omega)
      have hJ2 : fr (fun a => a = 155) I (up J 155 s p) := hJ.up rfl _ _
      have hr2 : (∀ q, 0 ≤ q → q < 6 → rd (up J 155 s p) 155 q = ru W s p q) := by
        intro q q0 q1
        rw [rd_up (by omega) (by omega)]
        by_cases e : q = s
        · rw [e, ru_s, ru_s]
        · rw [ru_n e, ru_n e, hr q q0 q1, ru_n e]
      have f151 : rd (up J 155 s p) 151 = rd I 151 := by rw [rd_uo (by decide), e151]
      have hfit : fitB (rd (up J 155 s p) 151) (rd (up J 155 s p) 155) s = fitB (rd I 151) (ru W s p) s := by
        rw [f151]
        exact fitB_c hN (fun q q0 q1 => hr2 q q0 (by omega)) s
      have nxt : lv (rd I 151) (fun s p => mt (rd I 164 s) p.toNat) k s W p = lv (rd I 151) (fun s p => mt (rd I 164 s) p.toNat) k s W (p + 1) → ∀ (A : mj_I) (w : Option xV), fr (fun a => a = 155) I A → (∀ q, 0 ≤ q → q < 6 → rd A 155 q = ru W s p q) → xW d 253 2 [some (.inr (13, 0, 150, 0)), some (.inl st), some (.inl (s)), w] [] A S Q := by
        intro hl A w hA hrA
        rw [hl] at hE hX
        refine to2 (p + 1) A w (by omega) (by omega) hA (fun q q0 q1 => by rw [show p + 1 - 1 = p by omega]; exact hrA q q0 q1) ?_
        exact ihx (p + 1) A p (by omega) (by omega) hA hrA hE hX
      refine x_hd false [2, 17] 60 ?_
      (repeat' (first | rw [e151] | rw [e164] | refine m_fits hS _ (by rw [f151]; exact hN) ?_ (fun q q0 q1 => by rw [hr2 q q0 q1, f151]; exact ru_b hWb (by omega) q) ?_ ?_ | with_reducible assumption | with_reducible exact rfl | with_reducible exact trivial | (with_reducible (show (_ : Int) ≤ _); omega) | (with_reducible (show (_ : Int) < _); omega) | (with_reducible (show (_ : Nat) < _); omega) | (with_reducible (show (_ : Nat) ≤ _); omega) | with_reducible exact Or.inl rfl | with_reducible exact Or.inr rfl | with_reducible exact Or.inl trivial | with_reducible exact Or.inr trivial | (intro hz; exact absurd hz (by decide)) | (intro hz; exfalso; omega) | refine And.intro ?_ ?_ | intro _))
      · rename_i z _ y _
        rw [hfit] at y
        have hb : mt (rd I 164 s) p.toNat = true := by
          cases e : mt (rd I 164 s) p.toNat with
          | true => rfl
          | false => exact absurd (hask.mpr e) z
        rw [if_pos ⟨hb, y⟩] at hls
        refine sub p (ru W s p) p0 (by omega) rfl _ _ hJ2 hr2 (fun hl => ?_) (fun v l hl => ?_)
        · rw [hl, List.nil_append] at hls
          exact nxt hls
        · rw [hl, List.cons_append] at hls
          exact hX v _ hls
      · rename_i z _ y _
        rw [hfit] at y
        rw [if_neg (fun q => by rw [q.2] at y; exact absurd y (by decide)), List.nil_append] at hls
        exact nxt hls _ _ hJ2 hr2
      · rename_i z
        rw [if_neg (fun q => by rw [hask.mp z] at q; exact absurd q.1 (by decide)), List.nil_append] at hls
        rw [hls] at hE hX
        exact ihx (p + 1) J r (by omega) (by omega) hJ hr hE hX
  intro p J w p0 p1 hJ hr hE hX
  exact to2 p J w p0 p1 hJ hr (inner (rd I 151 2 - p).toNat p J _ p0 (by omega) hJ hr hE hX)
/-- from a level on: the rest of the list -/
theorem m_goL {d : Nat} {I : mj_I} {S : mj_S} {Q : mj_Q} (hS : mk_Sh S) (hN : Inv (rd I 151)) (hd : 3 < d) (st : Int) : ∀ (k : Nat) (s : Int) (W : Int → Int), 0 ≤ s → s + k + 1 = rd I 151 3 → (∀ q, s ≤ q → W q = -1) → (∀ q, -1 ≤ W q ∧ W q < rd I 151 2) → ∀ (p : Int) (J : mj_I) (w : Option xV), 0 ≤ p → p ≤ rd I 151 2 → fr (fun a => a = 155) I J → (∀ q, 0 ≤ q → q < 6 → rd J 155 q = ru W s (p - 1) q) → (lv (rd I 151) (fun s p => mt (rd I 164 s) p.toNat) k s W p = [] → ∀ (A : mj_I) (w : Option xV), fr (fun a => a = 155) I A → (∀ q, 0 ≤ q → q < 6 → rd A 155 q = W q) → xW d 253 2 [some (.inr (13, 0, 150, 0)), some (.inl st), some (.inl (s - 1)), w] [] A S Q) → (∀ v l, lv (rd I 151) (fun s p => mt (rd I 164 s) p.toNat) k s W p = v :: l → ∀ (A : mj_I) (w : Option xV), fr (fun a => a = 155) I A → (∀ q, 0 ≤ q → q < 6 → rd A 155 q = v q) → xW d 253 2 [some (.inr (13, 0, 150, 0)), some (.inl st), some (.inl (rd I 151 3)), w] [] A S Q) → xW d 253 2 [some (.inr (13, 0, 150, 0)), some (.inl st), some (.inl (s)), w] [] J S Q := by
  have hH := hN.1
  unfold InvH at hH
  intro k
  induction k with
  | zero =>
    intro s W s0 s1 hW hWb
    refine m_goI hS hN hd st 0 s W s0 s1 hW hWb (fun p W' p0 p1 eW J w hJ hr hE hX => ?_)
    rw [show s + 1 = rd I 151 3 by omega]
    exact hX W' [] rfl J w hJ hr
  | succ k ihk =>
    intro s W s0 s1 hW hWb
    refine m_goI hS hN hd st (k + 1) s W s0 s1 hW hWb (fun p W' p0 p1 eW J w hJ hr hE hX => ?_)
    have el : lv (rd I 151) (fun s p => mt (rd I 164 s) p.toNat) k (s + 1) W' 0 = wl (rd I 151) (fun s p => mt (rd I 164 s) p.toNat) (k + 1) (s + 1) W' := by
      unfold lv
      rw [show (rd I 151 2 - 0).toNat = (rd I 151 2).toNat by omega]
      rfl
    have hW' : ∀ q, s + 1 ≤ q → W' q = -1 := fun q hq => by rw [eW, ru_n (by omega)]; exact hW q (by omega)
    refine ihk (s + 1) W' (by omega) (by omega) hW' (by rw [eW]; exact ru_b hWb (by omega)) 0 J w (by omega) (by omega) hJ (fun q q0 q1 => ?_) (fun hl A w hA hrA => ?_) (fun v l hl A w hA hrA => ?_)
    · rw [hr q q0 q1]
      by_cases e : q = s + 1
      · rw [e, ru_s, hW' _ (by omega)]
        rfl
      · rw [ru_n e]
    · rw [el] at hl
      rw [show s + 1 - 1 = s by omega]
      exact hE hl A w hA hrA
    · rw [el] at hl
      exact hX v l hl A w hA hrA
/-- 253 goesOn, from the start -/
theorem m_goes0 {d : Nat} {I : mj_I} {S : mj_S} {Q : mj_Q} (hS : mk_Sh S) (hN : Inv (rd I 151)) (hd : 3 < d) (h0 : ∀ q, 0 ≤ q → q < 6 → rd I 155 q = -1)
    (hE : allW (rd I 151) (fun s p => mt (rd I 164 s) p.toNat) = [] → ∀ A, fr (fun a => a = 155) I A → Q (some (.inl (-1))) A S)
    (hX : ∀ v l, allW (rd I 151) (fun s p => mt (rd I 164 s) p.toNat) = v :: l → ∀ A, fr (fun a => a = 155) I A → (∀ q, 0 ≤ q → q < 6 → rd A 155 q = v q) → Q (some (.inl (rd I 151 3))) A S) : mj_C d 253 [.inr 150, .inl 0] I S Q := by
  have hH := hN.1
  unfold InvH at hH
  have stop1 : ∀ (A : mj_I) (w : Option xV), Q (some (.inl (-1))) A S → xW d 253 2 [some (.inr (13, 0, 150, 0)), some (.inl 0), some (.inl (0 - 1)), w] [] A S Q := by
    intro A w hq
    refine x_hd false [17] 20 ?_
    (repeat' (first | with_reducible assumption | with_reducible exact rfl | with_reducible exact trivial | (with_reducible (show (_ : Int) ≤ _); omega) | (with_reducible (show (_ : Int) < _); omega) | (with_reducible (show (_ : Nat) < _); omega) | (with_reducible (show (_ : Nat) ≤ _); omega) | with_reducible exact Or.inl rfl | with_reducible exact Or.inr rfl | with_reducible exact Or.inl trivial | with_reducible exact Or.inr trivial | (intro hz; exact absurd hz (by decide)) | (intro hz; exfalso; omega) | refine And.intro ?_ ?_ | intro _))
    exact hq
  have stop2 : ∀ (A : mj_I) (w : Option xV), fr (fun a => a = 155) I A → Q (some (.inl (rd I 151 3))) A S → xW d 253 2 [some (.inr (13, 0, 150, 0)), some (.inl 0), some (.inl (rd I 151 3)), w] [] A S Q := by
    intro A w hA hq
    have e151 : rd A 151 = rd I 151 := hA.r (by omega)
    refine x_hd false [17] 20 ?_
    (repeat' (first | rw [e151] | with_reducible assumption | with_reducible exact rfl | with_reducible exact trivial | (with_reducible (show (_ : Int) ≤ _); omega) | (with_reducible (show (_ : Int) < _); omega) | (with_reducible (show (_ : Nat) < _); omega) | (with_reducible (show (_ : Nat) ≤ _); omega) | with_reducible exact Or.inl rfl | with_reducible exact Or.inr rfl | with_reducible exact Or.inl trivial | with_reducible exact Or.inr trivial | (intro hz; exact absurd hz (by decide)) | (intro hz; exfalso; omega) | refine And.intro ?_ ?_ | intro _))
    exact hq
  have main : xW d 253 2 [some (.inr (13, 0, 150, 0)), some (.inl 0), some (.inl 0), none] [] I S Q := by
    by_cases hz : rd I 151 3 = 0
    · have e : allW (rd I 151) (fun s p => mt (rd I 164 s) p.toNat) = [nb] := by
        unfold allW
        rw [hz]
        rfl
      have hq := hX nb [] e I fr.refl (fun q q0 q1 => h0 q q0 q1)
      have := stop2 I none fr.refl hq
      rw [hz] at this
      exact this
    · obtain ⟨k, hk⟩ : ∃ k : Nat, (k : Int) + 1 = rd I 151 3 := ⟨(rd I 151 3 - 1).toNat, by omega⟩
      have ea : allW (rd I 151) (fun s p => mt (rd I 164 s) p.toNat) = lv (rd I 151) (fun s p => mt (rd I 164 s) p.toNat) k 0 nb 0 := by
        unfold allW lv
        rw [show (rd I 151 3).toNat = k + 1 by omega, show (rd I 151 2 - 0).toNat = (rd I 151 2).toNat by omega]
        rfl
      refine m_goL hS hN hd 0 k 0 nb (by omega) (by omega) (fun _ _ => rfl) (nb_b (by omega)) 0 I none (by omega) (by omega) fr.refl (fun q q0 q1 => ?_) (fun hl A w hA _ => ?_) (fun v l hl A w hA hr => ?_)
      · rw [h0 q q0 q1]
        by_cases e : q = 0
        · rw [e, ru_s]
          rfl
        · rw [ru_n e]
          rfl
      · exact stop1 A w (hE (by rw [ea]; exact hl) A hA)
      · exact stop2 A w hA (hX v l (by rw [ea]; exact hl) A hA hr)
  refine x_C false [.inr (13, 0, 150, 0), .inl 0] [2] 20 hS ⟨xok_m hS, trivial, trivial⟩ ?_
  exact main
