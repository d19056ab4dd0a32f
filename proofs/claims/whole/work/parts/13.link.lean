/-! the links of all methods together, by program (wip/whole/mk13.py) -/
theorem mj_nth_nil {α : Type} (d : α) : ∀ k, mj_nth d [] k = d
  | _ => rfl
theorem mj_nth_big {α : Type} (d : α) : ∀ (l : List α) (k : Nat), l.length ≤ k → mj_nth d l k = d
  | [], _, _ => rfl
  | _ :: _, 0, h => absurd h (by simp)
  | _ :: l, k + 1, h => mj_nth_big d l k (by simpa using h)
theorem mj_ch_big {α : Type} (d : α) : ∀ (t : List (List α)) (i : Nat), (t.dropLast.all (fun l => decide (l.length = 16))) = true → (t.map List.length).sum ≤ i → mj_nth d (mj_nth [] t (i / 16)) (i % 16) = d
  | [], i, _, _ => rfl
  | [l], i, _, h => by
    have h : l.length ≤ i := by simpa using h
    by_cases hi : i < 16
    · rw [Nat.div_eq_of_lt hi, Nat.mod_eq_of_lt hi]
      exact mj_nth_big d l i h
    · obtain ⟨k, hk⟩ : ∃ k, i / 16 = k + 1 := ⟨i / 16 - 1, by omega⟩
      rw [hk]
      rfl
  | l :: l2 :: t, i, h1, h => by
    have h1 : (l :: (l2 :: t).dropLast).all (fun l => decide (l.length = 16)) = true := h1
    simp only [List.all_cons, Bool.and_eq_true, decide_eq_true_eq] at h1
    have h : l.length + ((l2 :: t).map List.length).sum ≤ i := by simpa using h
    have ih := mj_ch_big d (l2 :: t) (i - 16) h1.2 (by omega)
    rw [show i / 16 = (i - 16) / 16 + 1 by omega, show i % 16 = (i - 16) % 16 by omega]
    exact ih
theorem mj_lk_nop {m i : Nat} (h : mj_code m i = j0 .nop) : mj_lk m i = true := by
  unfold mj_lk
  rw [h]
  rfl
theorem mj_lk_out {m n i : Nat} (h1 : ((mj_tab m).2.dropLast.all (fun l => decide (l.length = 16))) = true) (h2 : ((mj_tab m).2.map List.length).sum = n) (h : n ≤ i) : mj_lk m i = true := by
  refine mj_lk_nop ?_
  unfold mj_code
  exact mj_ch_big _ _ _ h1 (by omega)
theorem mj_all_lk {m n : Nat} (h : mj_all m n = true) (i : Nat) : mj_lk m i = true := by
  unfold mj_all at h
  simp only [Bool.and_eq_true, decide_eq_true_eq] at h
  obtain ⟨⟨⟨⟨⟨h1, -⟩, h2⟩, h3⟩, -⟩, -⟩ := h
  by_cases hi : i < n
  · exact List.all_eq_true.mp h1 i (List.mem_range.mpr hi)
  · exact mj_lk_out h3 h2 (by omega)
theorem mj_all_mok {m n : Nat} (h : mj_all m n = true) (h0 : m ≠ 299) (h1 : m ≠ 1) (h43 : m ≠ 43) (h44 : m ≠ 44) : mj_mok m := by
  unfold mj_all at h
  simp only [Bool.and_eq_true, Bool.or_eq_true, decide_eq_true_eq, ne_eq] at h
  obtain ⟨⟨⟨⟨⟨-, hpc⟩, -⟩, -⟩, -⟩, h⟩ := h
  rcases h with (((h | h) | h) | h) | h
  · exact absurd h h0
  · exact absurd h h1
  · exact absurd h h43
  · exact absurd h h44
  obtain ⟨⟨⟨⟨⟨⟨⟨⟨q1, q2⟩, q3⟩, q4⟩, q5⟩, q6⟩, q7⟩, q8⟩, q9⟩ := h
  refine ⟨mj_at_in q1, mj_at_in (q2.resolve_right h1), q3, q4, q5, q6, q7, q8, hpc, ?_⟩
  rcases q9 with (q | q) | q
  · exact Or.inl ⟨q.1, mj_at_in q.2⟩
  · exact Or.inr (Or.inl ⟨q.1.1, mj_at_in q.1.2, mj_at_in q.2⟩)
  · exact Or.inr (Or.inr ⟨q.1.1, mj_at_in q.1.2, q.2⟩)
theorem mj_ag0 : ∀ k, k < 10 → ∃ n, mj_all (0 + k) n = true := by
  intro k hk
  match k, hk with
  | 0, _ => exact ⟨_, mj_lk0⟩
  | 1, _ => exact ⟨_, mj_lk1⟩
  | 2, _ => exact ⟨_, mj_lk2⟩
  | 3, _ => exact ⟨_, mj_lk3⟩
  | 4, _ => exact ⟨_, mj_lk4⟩
  | 5, _ => exact ⟨_, mj_lk5⟩
  | 6, _ => exact ⟨_, mj_lk6⟩
  | 7, _ => exact ⟨_, mj_lk7⟩
  | 8, _ => exact ⟨_, mj_lk8⟩
  | 9, _ => exact ⟨_, mj_lk9⟩
  | k + 10, h => omega
theorem mj_ag1 : ∀ k, k < 10 → ∃ n, mj_all (10 + k) n = true := by
  intro k hk
  match k, hk with
  | 0, _ => exact ⟨_, mj_lk10⟩
  | 1, _ => exact ⟨_, mj_lk11⟩
  | 2, _ => exact ⟨_, mj_lk12⟩
  | 3, _ => exact ⟨_, mj_lk13⟩
  | 4, _ => exact ⟨_, mj_lk14⟩
  | 5, _ => exact ⟨_, mj_lk15⟩
  | 6, _ => exact ⟨_, mj_lk16⟩
  | 7, _ => exact ⟨_, mj_lk17⟩
  | 8, _ => exact ⟨_, mj_lk18⟩
  | 9, _ => exact ⟨_, mj_lk19⟩
  | k + 10, h => omega
theorem mj_ag2 : ∀ k, k < 10 → ∃ n, mj_all (20 + k) n = true := by
  intro k hk
  match k, hk with
  | 0, _ => exact ⟨_, mj_lk20⟩
  | 1, _ => exact ⟨_, mj_lk21⟩
  | 2, _ => exact ⟨_, mj_lk22⟩
  | 3, _ => exact ⟨_, mj_lk23⟩
  | 4, _ => exact ⟨_, mj_lk24⟩
  | 5, _ => exact ⟨_, mj_lk25⟩
  | 6, _ => exact ⟨_, mj_lk26⟩
  | 7, _ => exact ⟨_, mj_lk27⟩
  | 8, _ => exact ⟨_, mj_lk28⟩
  | 9, _ => exact ⟨_, mj_lk29⟩
  | k + 10, h => omega
theorem mj_ag3 : ∀ k, k < 10 → ∃ n, mj_all (30 + k) n = true := by
  intro k hk
  match k, hk with
  | 0, _ => exact ⟨_, mj_lk30⟩
  | 1, _ => exact ⟨_, mj_lk31⟩
  | 2, _ => exact ⟨_, mj_lk32⟩
  | 3, _ => exact ⟨_, mj_lk33⟩
  | 4, _ => exact ⟨_, mj_lk34⟩
  | 5, _ => exact ⟨_, mj_lk35⟩
  | 6, _ => exact ⟨_, mj_lk36⟩
  | 7, _ => exact ⟨_, mj_lk37⟩
  | 8, _ => exact ⟨_, mj_lk38⟩
  | 9, _ => exact ⟨_, mj_lk39⟩
  | k + 10, h => omega
theorem mj_ag4 : ∀ k, k < 10 → ∃ n, mj_all (40 + k) n = true := by
  intro k hk
  match k, hk with
  | 0, _ => exact ⟨_, mj_lk40⟩
  | 1, _ => exact ⟨_, mj_lk41⟩
  | 2, _ => exact ⟨_, mj_lk42⟩
  | 3, _ => exact ⟨_, mj_lk43⟩
  | 4, _ => exact ⟨_, mj_lk44⟩
  | 5, _ => exact ⟨_, mj_lk45⟩
  | 6, _ => exact ⟨_, mj_lk46⟩
  | 7, _ => exact ⟨_, mj_lk47⟩
  | 8, _ => exact ⟨_, mj_lk48⟩
  | 9, _ => exact ⟨_, mj_lk49⟩
  | k + 10, h => omega
theorem mj_ag5 : ∀ k, k < 10 → ∃ n, mj_all (50 + k) n = true := by
  intro k hk
  match k, hk with
  | 0, _ => exact ⟨_, mj_lk50⟩
  | 1, _ => exact ⟨_, mj_lk51⟩
  | 2, _ => exact ⟨_, mj_lk52⟩
  | 3, _ => exact ⟨_, mj_lk53⟩
  | 4, _ => exact ⟨_, mj_lk54⟩
  | 5, _ => exact ⟨_, mj_lk55⟩
  | 6, _ => exact ⟨_, mj_lk56⟩
  | 7, _ => exact ⟨_, mj_lk57⟩
  | 8, _ => exact ⟨_, mj_lk58⟩
  | 9, _ => exact ⟨_, mj_lk59⟩
  | k + 10, h => omega
theorem mj_ag6 : ∀ k, k < 10 → ∃ n, mj_all (60 + k) n = true := by
  intro k hk
  match k, hk with
  | 0, _ => exact ⟨_, mj_lk60⟩
  | 1, _ => exact ⟨_, mj_lk61⟩
  | 2, _ => exact ⟨_, mj_lk62⟩
  | 3, _ => exact ⟨_, mj_lk63⟩
  | 4, _ => exact ⟨_, mj_lk64⟩
  | 5, _ => exact ⟨_, mj_lk65⟩
  | 6, _ => exact ⟨_, mj_lk66⟩
  | 7, _ => exact ⟨_, mj_lk67⟩
  | 8, _ => exact ⟨_, mj_lk68⟩
  | 9, _ => exact ⟨_, mj_lk69⟩
  | k + 10, h => omega
theorem mj_ag7 : ∀ k, k < 10 → ∃ n, mj_all (70 + k) n = true := by
  intro k hk
  match k, hk with
  | 0, _ => exact ⟨_, mj_lk70⟩
  | 1, _ => exact ⟨_, mj_lk71⟩
  | 2, _ => exact ⟨_, mj_lk72⟩
  | 3, _ => exact ⟨_, mj_lk73⟩
  | 4, _ => exact ⟨_, mj_lk74⟩
  | 5, _ => exact ⟨_, mj_lk75⟩
  | 6, _ => exact ⟨_, mj_lk76⟩
  | 7, _ => exact ⟨_, mj_lk77⟩
  | 8, _ => exact ⟨_, mj_lk78⟩
  | 9, _ => exact ⟨_, mj_lk79⟩
  | k + 10, h => omega
theorem mj_ag8 : ∀ k, k < 10 → ∃ n, mj_all (80 + k) n = true := by
  intro k hk
  match k, hk with
  | 0, _ => exact ⟨_, mj_lk80⟩
  | 1, _ => exact ⟨_, mj_lk81⟩
  | 2, _ => exact ⟨_, mj_lk82⟩
  | 3, _ => exact ⟨_, mj_lk83⟩
  | 4, _ => exact ⟨_, mj_lk84⟩
  | 5, _ => exact ⟨_, mj_lk85⟩
  | 6, _ => exact ⟨_, mj_lk86⟩
  | 7, _ => exact ⟨_, mj_lk87⟩
  | 8, _ => exact ⟨_, mj_lk88⟩
  | 9, _ => exact ⟨_, mj_lk89⟩
  | k + 10, h => omega
theorem mj_ag9 : ∀ k, k < 10 → ∃ n, mj_all (90 + k) n = true := by
  intro k hk
  match k, hk with
  | 0, _ => exact ⟨_, mj_lk90⟩
  | 1, _ => exact ⟨_, mj_lk91⟩
  | 2, _ => exact ⟨_, mj_lk92⟩
  | 3, _ => exact ⟨_, mj_lk93⟩
  | 4, _ => exact ⟨_, mj_lk94⟩
  | 5, _ => exact ⟨_, mj_lk95⟩
  | 6, _ => exact ⟨_, mj_lk96⟩
  | 7, _ => exact ⟨_, mj_lk97⟩
  | 8, _ => exact ⟨_, mj_lk98⟩
  | 9, _ => exact ⟨_, mj_lk99⟩
  | k + 10, h => omega
theorem mj_ag10 : ∀ k, k < 10 → ∃ n, mj_all (100 + k) n = true := by
  intro k hk
  match k, hk with
  | 0, _ => exact ⟨_, mj_lk100⟩
  | 1, _ => exact ⟨_, mj_lk101⟩
  | 2, _ => exact ⟨_, mj_lk102⟩
  | 3, _ => exact ⟨_, mj_lk103⟩
  | 4, _ => exact ⟨_, mj_lk104⟩
  | 5, _ => exact ⟨_, mj_lk105⟩
  | 6, _ => exact ⟨_, mj_lk106⟩
  | 7, _ => exact ⟨_, mj_lk107⟩
  | 8, _ => exact ⟨_, mj_lk108⟩
  | 9, _ => exact ⟨_, mj_lk109⟩
  | k + 10, h => omega
theorem mj_ag11 : ∀ k, k < 10 → ∃ n, mj_all (110 + k) n = true := by
  intro k hk
  match k, hk with
  | 0, _ => exact ⟨_, mj_lk110⟩
  | 1, _ => exact ⟨_, mj_lk111⟩
  | 2, _ => exact ⟨_, mj_lk112⟩
  | 3, _ => exact ⟨_, mj_lk113⟩
  | 4, _ => exact ⟨_, mj_lk114⟩
  | 5, _ => exact ⟨_, mj_lk115⟩
  | 6, _ => exact ⟨_, mj_lk116⟩
  | 7, _ => exact ⟨_, mj_lk117⟩
  | 8, _ => exact ⟨_, mj_lk118⟩
  | 9, _ => exact ⟨_, mj_lk119⟩
  | k + 10, h => omega
theorem mj_ag12 : ∀ k, k < 10 → ∃ n, mj_all (120 + k) n = true := by
  intro k hk
  match k, hk with
  | 0, _ => exact ⟨_, mj_lk120⟩
  | 1, _ => exact ⟨_, mj_lk121⟩
  | 2, _ => exact ⟨_, mj_lk122⟩
  | 3, _ => exact ⟨_, mj_lk123⟩
  | 4, _ => exact ⟨_, mj_lk124⟩
  | 5, _ => exact ⟨_, mj_lk125⟩
  | 6, _ => exact ⟨_, mj_lk126⟩
  | 7, _ => exact ⟨_, mj_lk127⟩
  | 8, _ => exact ⟨_, mj_lk128⟩
  | 9, _ => exact ⟨_, mj_lk129⟩
  | k + 10, h => omega
theorem mj_ag13 : ∀ k, k < 10 → ∃ n, mj_all (130 + k) n = true := by
  intro k hk
  match k, hk with
  | 0, _ => exact ⟨_, mj_lk130⟩
  | 1, _ => exact ⟨_, mj_lk131⟩
  | 2, _ => exact ⟨_, mj_lk132⟩
  | 3, _ => exact ⟨_, mj_lk133⟩
  | 4, _ => exact ⟨_, mj_lk134⟩
  | 5, _ => exact ⟨_, mj_lk135⟩
  | 6, _ => exact ⟨_, mj_lk136⟩
  | 7, _ => exact ⟨_, mj_lk137⟩
  | 8, _ => exact ⟨_, mj_lk138⟩
  | 9, _ => exact ⟨_, mj_lk139⟩
  | k + 10, h => omega
theorem mj_ag14 : ∀ k, k < 10 → ∃ n, mj_all (140 + k) n = true := by
  intro k hk
  match k, hk with
  | 0, _ => exact ⟨_, mj_lk140⟩
  | 1, _ => exact ⟨_, mj_lk141⟩
  | 2, _ => exact ⟨_, mj_lk142⟩
  | 3, _ => exact ⟨_, mj_lk143⟩
  | 4, _ => exact ⟨_, mj_lk144⟩
  | 5, _ => exact ⟨_, mj_lk145⟩
  | 6, _ => exact ⟨_, mj_lk146⟩
  | 7, _ => exact ⟨_, mj_lk147⟩
  | 8, _ => exact ⟨_, mj_lk148⟩
  | 9, _ => exact ⟨_, mj_lk149⟩
  | k + 10, h => omega
theorem mj_ag15 : ∀ k, k < 10 → ∃ n, mj_all (150 + k) n = true := by
  intro k hk
  match k, hk with
  | 0, _ => exact ⟨_, mj_lk150⟩
  | 1, _ => exact ⟨_, mj_lk151⟩
  | 2, _ => exact ⟨_, mj_lk152⟩
  | 3, _ => exact ⟨_, mj_lk153⟩
  | 4, _ => exact ⟨_, mj_lk154⟩
  | 5, _ => exact ⟨_, mj_lk155⟩
  | 6, _ => exact ⟨_, mj_lk156⟩
  | 7, _ => exact ⟨_, mj_lk157⟩
  | 8, _ => exact ⟨_, mj_lk158⟩
  | 9, _ => exact ⟨_, mj_lk159⟩
  | k + 10, h => omega
theorem mj_ag16 : ∀ k, k < 10 → ∃ n, mj_all (160 + k) n = true := by
  intro k hk
  match k, hk with
  | 0, _ => exact ⟨_, mj_lk160⟩
  | 1, _ => exact ⟨_, mj_lk161⟩
  | 2, _ => exact ⟨_, mj_lk162⟩
  | 3, _ => exact ⟨_, mj_lk163⟩
  | 4, _ => exact ⟨_, mj_lk164⟩
  | 5, _ => exact ⟨_, mj_lk165⟩
  | 6, _ => exact ⟨_, mj_lk166⟩
  | 7, _ => exact ⟨_, mj_lk167⟩
  | 8, _ => exact ⟨_, mj_lk168⟩
  | 9, _ => exact ⟨_, mj_lk169⟩
  | k + 10, h => omega
theorem mj_ag17 : ∀ k, k < 10 → ∃ n, mj_all (170 + k) n = true := by
  intro k hk
  match k, hk with
  | 0, _ => exact ⟨_, mj_lk170⟩
  | 1, _ => exact ⟨_, mj_lk171⟩
  | 2, _ => exact ⟨_, mj_lk172⟩
  | 3, _ => exact ⟨_, mj_lk173⟩
  | 4, _ => exact ⟨_, mj_lk174⟩
  | 5, _ => exact ⟨_, mj_lk175⟩
  | 6, _ => exact ⟨_, mj_lk176⟩
  | 7, _ => exact ⟨_, mj_lk177⟩
  | 8, _ => exact ⟨_, mj_lk178⟩
  | 9, _ => exact ⟨_, mj_lk179⟩
  | k + 10, h => omega
theorem mj_ag18 : ∀ k, k < 10 → ∃ n, mj_all (180 + k) n = true := by
  intro k hk
  match k, hk with
  | 0, _ => exact ⟨_, mj_lk180⟩
  | 1, _ => exact ⟨_, mj_lk181⟩
  | 2, _ => exact ⟨_, mj_lk182⟩
  | 3, _ => exact ⟨_, mj_lk183⟩
  | 4, _ => exact ⟨_, mj_lk184⟩
  | 5, _ => exact ⟨_, mj_lk185⟩
  | 6, _ => exact ⟨_, mj_lk186⟩
  | 7, _ => exact ⟨_, mj_lk187⟩
  | 8, _ => exact ⟨_, mj_lk188⟩
  | 9, _ => exact ⟨_, mj_lk189⟩
  | k + 10, h => omega
theorem mj_ag19 : ∀ k, k < 10 → ∃ n, mj_all (190 + k) n = true := by
  intro k hk
  match k, hk with
  | 0, _ => exact ⟨_, mj_lk190⟩
  | 1, _ => exact ⟨_, mj_lk191⟩
  | 2, _ => exact ⟨_, mj_lk192⟩
  | 3, _ => exact ⟨_, mj_lk193⟩
  | 4, _ => exact ⟨_, mj_lk194⟩
  | 5, _ => exact ⟨_, mj_lk195⟩
  | 6, _ => exact ⟨_, mj_lk196⟩
  | 7, _ => exact ⟨_, mj_lk197⟩
  | 8, _ => exact ⟨_, mj_lk198⟩
  | 9, _ => exact ⟨_, mj_lk199⟩
  | k + 10, h => omega
theorem mj_ag20 : ∀ k, k < 10 → ∃ n, mj_all (200 + k) n = true := by
  intro k hk
  match k, hk with
  | 0, _ => exact ⟨_, mj_lk200⟩
  | 1, _ => exact ⟨_, mj_lk201⟩
  | 2, _ => exact ⟨_, mj_lk202⟩
  | 3, _ => exact ⟨_, mj_lk203⟩
  | 4, _ => exact ⟨_, mj_lk204⟩
  | 5, _ => exact ⟨_, mj_lk205⟩
  | 6, _ => exact ⟨_, mj_lk206⟩
  | 7, _ => exact ⟨_, mj_lk207⟩
  | 8, _ => exact ⟨_, mj_lk208⟩
  | 9, _ => exact ⟨_, mj_lk209⟩
  | k + 10, h => omega
theorem mj_ag21 : ∀ k, k < 10 → ∃ n, mj_all (210 + k) n = true := by
  intro k hk
  match k, hk with
  | 0, _ => exact ⟨_, mj_lk210⟩
  | 1, _ => exact ⟨_, mj_lk211⟩
  | 2, _ => exact ⟨_, mj_lk212⟩
  | 3, _ => exact ⟨_, mj_lk213⟩
  | 4, _ => exact ⟨_, mj_lk214⟩
  | 5, _ => exact ⟨_, mj_lk215⟩
  | 6, _ => exact ⟨_, mj_lk216⟩
  | 7, _ => exact ⟨_, mj_lk217⟩
  | 8, _ => exact ⟨_, mj_lk218⟩
  | 9, _ => exact ⟨_, mj_lk219⟩
  | k + 10, h => omega
theorem mj_ag22 : ∀ k, k < 10 → ∃ n, mj_all (220 + k) n = true := by
  intro k hk
  match k, hk with
  | 0, _ => exact ⟨_, mj_lk220⟩
  | 1, _ => exact ⟨_, mj_lk221⟩
  | 2, _ => exact ⟨_, mj_lk222⟩
  | 3, _ => exact ⟨_, mj_lk223⟩
  | 4, _ => exact ⟨_, mj_lk224⟩
  | 5, _ => exact ⟨_, mj_lk225⟩
  | 6, _ => exact ⟨_, mj_lk226⟩
  | 7, _ => exact ⟨_, mj_lk227⟩
  | 8, _ => exact ⟨_, mj_lk228⟩
  | 9, _ => exact ⟨_, mj_lk229⟩
  | k + 10, h => omega
theorem mj_ag23 : ∀ k, k < 10 → ∃ n, mj_all (230 + k) n = true := by
  intro k hk
  match k, hk with
  | 0, _ => exact ⟨_, mj_lk230⟩
  | 1, _ => exact ⟨_, mj_lk231⟩
  | 2, _ => exact ⟨_, mj_lk232⟩
  | 3, _ => exact ⟨_, mj_lk233⟩
  | 4, _ => exact ⟨_, mj_lk234⟩
  | 5, _ => exact ⟨_, mj_lk235⟩
  | 6, _ => exact ⟨_, mj_lk236⟩
  | 7, _ => exact ⟨_, mj_lk237⟩
  | 8, _ => exact ⟨_, mj_lk238⟩
  | 9, _ => exact ⟨_, mj_lk239⟩
  | k + 10, h => omega
theorem mj_ag24 : ∀ k, k < 10 → ∃ n, mj_all (240 + k) n = true := by
  intro k hk
  match k, hk with
  | 0, _ => exact ⟨_, mj_lk240⟩
  | 1, _ => exact ⟨_, mj_lk241⟩
  | 2, _ => exact ⟨_, mj_lk242⟩
  | 3, _ => exact ⟨_, mj_lk243⟩
  | 4, _ => exact ⟨_, mj_lk244⟩
  | 5, _ => exact ⟨_, mj_lk245⟩
  | 6, _ => exact ⟨_, mj_lk246⟩
  | 7, _ => exact ⟨_, mj_lk247⟩
  | 8, _ => exact ⟨_, mj_lk248⟩
  | 9, _ => exact ⟨_, mj_lk249⟩
  | k + 10, h => omega
theorem mj_ag25 : ∀ k, k < 10 → ∃ n, mj_all (250 + k) n = true := by
  intro k hk
  match k, hk with
  | 0, _ => exact ⟨_, mj_lk250⟩
  | 1, _ => exact ⟨_, mj_lk251⟩
  | 2, _ => exact ⟨_, mj_lk252⟩
  | 3, _ => exact ⟨_, mj_lk253⟩
  | 4, _ => exact ⟨_, mj_lk254⟩
  | 5, _ => exact ⟨_, mj_lk255⟩
  | 6, _ => exact ⟨_, mj_lk256⟩
  | 7, _ => exact ⟨_, mj_lk257⟩
  | 8, _ => exact ⟨_, mj_lk258⟩
  | 9, _ => exact ⟨_, mj_lk259⟩
  | k + 10, h => omega
theorem mj_ag26 : ∀ k, k < 10 → ∃ n, mj_all (260 + k) n = true := by
  intro k hk
  match k, hk with
  | 0, _ => exact ⟨_, mj_lk260⟩
  | 1, _ => exact ⟨_, mj_lk261⟩
  | 2, _ => exact ⟨_, mj_lk262⟩
  | 3, _ => exact ⟨_, mj_lk263⟩
  | 4, _ => exact ⟨_, mj_lk264⟩
  | 5, _ => exact ⟨_, mj_lk265⟩
  | 6, _ => exact ⟨_, mj_lk266⟩
  | 7, _ => exact ⟨_, mj_lk267⟩
  | 8, _ => exact ⟨_, mj_lk268⟩
  | 9, _ => exact ⟨_, mj_lk269⟩
  | k + 10, h => omega
theorem mj_ag27 : ∀ k, k < 10 → ∃ n, mj_all (270 + k) n = true := by
  intro k hk
  match k, hk with
  | 0, _ => exact ⟨_, mj_lk270⟩
  | 1, _ => exact ⟨_, mj_lk271⟩
  | 2, _ => exact ⟨_, mj_lk272⟩
  | 3, _ => exact ⟨_, mj_lk273⟩
  | 4, _ => exact ⟨_, mj_lk274⟩
  | 5, _ => exact ⟨_, mj_lk275⟩
  | 6, _ => exact ⟨_, mj_lk276⟩
  | 7, _ => exact ⟨_, mj_lk277⟩
  | 8, _ => exact ⟨_, mj_lk278⟩
  | 9, _ => exact ⟨_, mj_lk279⟩
  | k + 10, h => omega
theorem mj_ag28 : ∀ k, k < 10 → ∃ n, mj_all (280 + k) n = true := by
  intro k hk
  match k, hk with
  | 0, _ => exact ⟨_, mj_lk280⟩
  | 1, _ => exact ⟨_, mj_lk281⟩
  | 2, _ => exact ⟨_, mj_lk282⟩
  | 3, _ => exact ⟨_, mj_lk283⟩
  | 4, _ => exact ⟨_, mj_lk284⟩
  | 5, _ => exact ⟨_, mj_lk285⟩
  | 6, _ => exact ⟨_, mj_lk286⟩
  | 7, _ => exact ⟨_, mj_lk287⟩
  | 8, _ => exact ⟨_, mj_lk288⟩
  | 9, _ => exact ⟨_, mj_lk289⟩
  | k + 10, h => omega
theorem mj_ag29 : ∀ k, k < 9 → ∃ n, mj_all (290 + k) n = true := by
  intro k hk
  match k, hk with
  | 0, _ => exact ⟨_, mj_lk290⟩
  | 1, _ => exact ⟨_, mj_lk291⟩
  | 2, _ => exact ⟨_, mj_lk292⟩
  | 3, _ => exact ⟨_, mj_lk293⟩
  | 4, _ => exact ⟨_, mj_lk294⟩
  | 5, _ => exact ⟨_, mj_lk295⟩
  | 6, _ => exact ⟨_, mj_lk296⟩
  | 7, _ => exact ⟨_, mj_lk297⟩
  | 8, _ => exact ⟨_, mj_lk298⟩
  | k + 9, h => omega
theorem mj_alls : ∀ m, m < 299 → ∃ n, mj_all m n = true := by
  intro m hm
  have hq : m / 10 < 30 := by omega
  generalize hd : m / 10 = q at hq
  have e : m = 10 * q + m % 10 := by omega
  match q, hq, hd, e with
  | 0, _, hd, e => rw [e]; exact mj_ag0 _ (by omega)
  | 1, _, hd, e => rw [e]; exact mj_ag1 _ (by omega)
  | 2, _, hd, e => rw [e]; exact mj_ag2 _ (by omega)
  | 3, _, hd, e => rw [e]; exact mj_ag3 _ (by omega)
  | 4, _, hd, e => rw [e]; exact mj_ag4 _ (by omega)
  | 5, _, hd, e => rw [e]; exact mj_ag5 _ (by omega)
  | 6, _, hd, e => rw [e]; exact mj_ag6 _ (by omega)
  | 7, _, hd, e => rw [e]; exact mj_ag7 _ (by omega)
  | 8, _, hd, e => rw [e]; exact mj_ag8 _ (by omega)
  | 9, _, hd, e => rw [e]; exact mj_ag9 _ (by omega)
  | 10, _, hd, e => rw [e]; exact mj_ag10 _ (by omega)
  | 11, _, hd, e => rw [e]; exact mj_ag11 _ (by omega)
  | 12, _, hd, e => rw [e]; exact mj_ag12 _ (by omega)
  | 13, _, hd, e => rw [e]; exact mj_ag13 _ (by omega)
  | 14, _, hd, e => rw [e]; exact mj_ag14 _ (by omega)
  | 15, _, hd, e => rw [e]; exact mj_ag15 _ (by omega)
  | 16, _, hd, e => rw [e]; exact mj_ag16 _ (by omega)
  | 17, _, hd, e => rw [e]; exact mj_ag17 _ (by omega)
  | 18, _, hd, e => rw [e]; exact mj_ag18 _ (by omega)
  | 19, _, hd, e => rw [e]; exact mj_ag19 _ (by omega)
  | 20, _, hd, e => rw [e]; exact mj_ag20 _ (by omega)
  | 21, _, hd, e => rw [e]; exact mj_ag21 _ (by omega)
  | 22, _, hd, e => rw [e]; exact mj_ag22 _ (by omega)
  | 23, _, hd, e => rw [e]; exact mj_ag23 _ (by omega)
  | 24, _, hd, e => rw [e]; exact mj_ag24 _ (by omega)
  | 25, _, hd, e => rw [e]; exact mj_ag25 _ (by omega)
  | 26, _, hd, e => rw [e]; exact mj_ag26 _ (by omega)
  | 27, _, hd, e => rw [e]; exact mj_ag27 _ (by omega)
  | 28, _, hd, e => rw [e]; exact mj_ag28 _ (by omega)
  | 29, _, hd, e => rw [e]; exact mj_ag29 _ (by omega)
  | q + 30, h, _, _ => omega
theorem mj_shL : (((mj_tab 299).2.dropLast.all (fun l => decide (l.length = 16))) && decide (((mj_tab 299).2.map List.length).sum = 1258)) = true := by decide +kernel
theorem mj_lkL : ∀ i, mj_lk 299 i = true := by
  intro i
  have hs := mj_shL
  simp only [Bool.and_eq_true, decide_eq_true_eq] at hs
  by_cases hi : i < 1258
  · have hq : i / 60 < 21 := by omega
    generalize hd : i / 60 = q at hq
    have e : i = 60 * q + i % 60 := by omega
    match q, hq, hd, e with
    | 0, _, hd, e => rw [e]; exact List.all_eq_true.mp mj_lkL0 _ (List.mem_range.mpr (by omega))
    | 1, _, hd, e => rw [e]; exact List.all_eq_true.mp mj_lkL1 _ (List.mem_range.mpr (by omega))
    | 2, _, hd, e => rw [e]; exact List.all_eq_true.mp mj_lkL2 _ (List.mem_range.mpr (by omega))
    | 3, _, hd, e => rw [e]; exact List.all_eq_true.mp mj_lkL3 _ (List.mem_range.mpr (by omega))
    | 4, _, hd, e => rw [e]; exact List.all_eq_true.mp mj_lkL4 _ (List.mem_range.mpr (by omega))
    | 5, _, hd, e => rw [e]; exact List.all_eq_true.mp mj_lkL5 _ (List.mem_range.mpr (by omega))
    | 6, _, hd, e => rw [e]; exact List.all_eq_true.mp mj_lkL6 _ (List.mem_range.mpr (by omega))
    | 7, _, hd, e => rw [e]; exact List.all_eq_true.mp mj_lkL7 _ (List.mem_range.mpr (by omega))
    | 8, _, hd, e => rw [e]; exact List.all_eq_true.mp mj_lkL8 _ (List.mem_range.mpr (by omega))
    | 9, _, hd, e => rw [e]; exact List.all_eq_true.mp mj_lkL9 _ (List.mem_range.mpr (by omega))
    | 10, _, hd, e => rw [e]; exact List.all_eq_true.mp mj_lkL10 _ (List.mem_range.mpr (by omega))
    | 11, _, hd, e => rw [e]; exact List.all_eq_true.mp mj_lkL11 _ (List.mem_range.mpr (by omega))
    | 12, _, hd, e => rw [e]; exact List.all_eq_true.mp mj_lkL12 _ (List.mem_range.mpr (by omega))
    | 13, _, hd, e => rw [e]; exact List.all_eq_true.mp mj_lkL13 _ (List.mem_range.mpr (by omega))
    | 14, _, hd, e => rw [e]; exact List.all_eq_true.mp mj_lkL14 _ (List.mem_range.mpr (by omega))
    | 15, _, hd, e => rw [e]; exact List.all_eq_true.mp mj_lkL15 _ (List.mem_range.mpr (by omega))
    | 16, _, hd, e => rw [e]; exact List.all_eq_true.mp mj_lkL16 _ (List.mem_range.mpr (by omega))
    | 17, _, hd, e => rw [e]; exact List.all_eq_true.mp mj_lkL17 _ (List.mem_range.mpr (by omega))
    | 18, _, hd, e => rw [e]; exact List.all_eq_true.mp mj_lkL18 _ (List.mem_range.mpr (by omega))
    | 19, _, hd, e => rw [e]; exact List.all_eq_true.mp mj_lkL19 _ (List.mem_range.mpr (by omega))
    | 20, _, hd, e => rw [e]; exact List.all_eq_true.mp mj_lkL20 _ (List.mem_range.mpr (by omega))
    | q + 21, h, _, _ => omega
  · exact mj_lk_out hs.1 hs.2 (by omega)
theorem mj_lk_all : ∀ m i, m < 300 → mj_lk m i = true := by
  intro m i hm
  by_cases h : m = 299
  · subst h
    exact mj_lkL i
  · obtain ⟨n, hn⟩ := mj_alls m (by omega)
    exact mj_all_lk hn i
theorem mj_mok_all : ∀ m, m < 299 → m ≠ 1 → m ≠ 43 → m ≠ 44 → mj_mok m := by
  intro m hm h1 h2 h3
  obtain ⟨n, hn⟩ := mj_alls m hm
  exact mj_all_mok hn (by omega) h1 h2 h3
theorem mj_fix_ok : mj_fix := ⟨mj_at_in (pl := 4125) (by decide +kernel), mj_at_in (pl := 4124) (by decide +kernel), mj_at_in (pl := 1022) (by decide +kernel), mj_at_in (pl := 1029) (by decide +kernel), mj_at_in (pl := 1030) (by decide +kernel), mj_at_in (pl := 3085) (by decide +kernel), mj_at_in (pl := 3086) (by decide +kernel), mj_at_in (pl := 3088) (by decide +kernel), mj_at_in (pl := 3089) (by decide +kernel), mj_at_in (pl := 1015) (by decide +kernel), mj_at_in (pl := 1068) (by decide +kernel), mj_at_in (pl := 2135) (by decide +kernel), mj_at_in (pl := 6171) (by decide +kernel), mj_at_in (pl := 6170) (by decide +kernel)⟩
theorem mj_snd_all (l : Launch) (E : mj_E) (n : Nat) : mj_snd l E n := mj_sound l E mj_lk_all mj_mok_all mj_fix_ok n
