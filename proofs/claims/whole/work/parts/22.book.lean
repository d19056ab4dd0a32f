/-! tags, lengths, references of the cells (wip/whole/mk22.py) -/
theorem mk_t20 {S : mj_S} (h : mk_Sh S) : mj_tg S 20 = 0 := h.t (n := 11) 20 rfl
theorem mk_r20_0 {S : mj_S} (h : mk_Sh S) : mj_rf S 20 0 = 21 := h.r 20 0 rfl
theorem mk_r20_1 {S : mj_S} (h : mk_Sh S) : mj_rf S 20 1 = 61 := h.r 20 1 rfl
theorem mk_r20_3 {S : mj_S} (h : mk_Sh S) : mj_rf S 20 3 = 101 := h.r 20 3 rfl
theorem mk_r20_4 {S : mj_S} (h : mk_Sh S) : mj_rf S 20 4 = 112 := h.r 20 4 rfl
theorem mk_r20_5 {S : mj_S} (h : mk_Sh S) : mj_rf S 20 5 = 115 := h.r 20 5 rfl
theorem mk_r20_6 {S : mj_S} (h : mk_Sh S) : mj_rf S 20 6 = 118 := h.r 20 6 rfl
theorem mk_r20_7 {S : mj_S} (h : mk_Sh S) : mj_rf S 20 7 = 119 := h.r 20 7 rfl
theorem mk_r20_8 {S : mj_S} (h : mk_Sh S) : mj_rf S 20 8 = 120 := h.r 20 8 rfl
theorem mk_r20_10 {S : mj_S} (h : mk_Sh S) : mj_rf S 20 10 = 121 := h.r 20 10 rfl
theorem mk_t101 {S : mj_S} (h : mk_Sh S) : mj_tg S 101 = 6 := h.t (n := 16) 101 rfl
theorem mk_r101_3 {S : mj_S} (h : mk_Sh S) : mj_rf S 101 3 = 102 := h.r 101 3 rfl
theorem mk_r101_4 {S : mj_S} (h : mk_Sh S) : mj_rf S 101 4 = 103 := h.r 101 4 rfl
theorem mk_r101_5 {S : mj_S} (h : mk_Sh S) : mj_rf S 101 5 = 104 := h.r 101 5 rfl
theorem mk_r101_6 {S : mj_S} (h : mk_Sh S) : mj_rf S 101 6 = 105 := h.r 101 6 rfl
theorem mk_r101_7 {S : mj_S} (h : mk_Sh S) : mj_rf S 101 7 = 106 := h.r 101 7 rfl
theorem mk_r101_8 {S : mj_S} (h : mk_Sh S) : mj_rf S 101 8 = 107 := h.r 101 8 rfl
theorem mk_r101_11 {S : mj_S} (h : mk_Sh S) : mj_rf S 101 11 = 108 := h.r 101 11 rfl
theorem mk_r101_12 {S : mj_S} (h : mk_Sh S) : mj_rf S 101 12 = 109 := h.r 101 12 rfl
theorem mk_r101_13 {S : mj_S} (h : mk_Sh S) : mj_rf S 101 13 = 110 := h.r 101 13 rfl
theorem mk_r101_15 {S : mj_S} (h : mk_Sh S) : mj_rf S 101 15 = 111 := h.r 101 15 rfl
theorem mk_t102 {S : mj_S} (h : mk_Sh S) : mj_tg S 102 = 20 := h.t (n := 6) 102 rfl
theorem mk_l102 {S : mj_S} (h : mk_Sh S) : mj_ln S 102 = 6 := h.l (t := 20) 102 rfl
theorem mk_a102 {S : mj_S} (h : mk_Sh S) {j : Int} {u : Nat} (h1 : 0 ≤ j) (h2 : j < 6) : mj_ai S 102 j 20 u := ⟨Or.inl (h.t (n := 6) 102 rfl), h1, by rw [h.l (t := 20) 102 rfl]; exact h2⟩
theorem mk_t103 {S : mj_S} (h : mk_Sh S) : mj_tg S 103 = 20 := h.t (n := 42) 103 rfl
theorem mk_l103 {S : mj_S} (h : mk_Sh S) : mj_ln S 103 = 42 := h.l (t := 20) 103 rfl
theorem mk_a103 {S : mj_S} (h : mk_Sh S) {j : Int} {u : Nat} (h1 : 0 ≤ j) (h2 : j < 42) : mj_ai S 103 j 20 u := ⟨Or.inl (h.t (n := 42) 103 rfl), h1, by rw [h.l (t := 20) 103 rfl]; exact h2⟩
theorem mk_t104 {S : mj_S} (h : mk_Sh S) : mj_tg S 104 = 20 := h.t (n := 252) 104 rfl
theorem mk_l104 {S : mj_S} (h : mk_Sh S) : mj_ln S 104 = 252 := h.l (t := 20) 104 rfl
theorem mk_a104 {S : mj_S} (h : mk_Sh S) {j : Int} {u : Nat} (h1 : 0 ≤ j) (h2 : j < 252) : mj_ai S 104 j 20 u := ⟨Or.inl (h.t (n := 252) 104 rfl), h1, by rw [h.l (t := 20) 104 rfl]; exact h2⟩
theorem mk_t105 {S : mj_S} (h : mk_Sh S) : mj_tg S 105 = 20 := h.t (n := 12) 105 rfl
theorem mk_l105 {S : mj_S} (h : mk_Sh S) : mj_ln S 105 = 12 := h.l (t := 20) 105 rfl
theorem mk_a105 {S : mj_S} (h : mk_Sh S) {j : Int} {u : Nat} (h1 : 0 ≤ j) (h2 : j < 12) : mj_ai S 105 j 20 u := ⟨Or.inl (h.t (n := 12) 105 rfl), h1, by rw [h.l (t := 20) 105 rfl]; exact h2⟩
theorem mk_t106 {S : mj_S} (h : mk_Sh S) : mj_tg S 106 = 20 := h.t (n := 12) 106 rfl
theorem mk_l106 {S : mj_S} (h : mk_Sh S) : mj_ln S 106 = 12 := h.l (t := 20) 106 rfl
theorem mk_a106 {S : mj_S} (h : mk_Sh S) {j : Int} {u : Nat} (h1 : 0 ≤ j) (h2 : j < 12) : mj_ai S 106 j 20 u := ⟨Or.inl (h.t (n := 12) 106 rfl), h1, by rw [h.l (t := 20) 106 rfl]; exact h2⟩
theorem mk_t107 {S : mj_S} (h : mk_Sh S) : mj_tg S 107 = 20 := h.t (n := 12) 107 rfl
theorem mk_l107 {S : mj_S} (h : mk_Sh S) : mj_ln S 107 = 12 := h.l (t := 20) 107 rfl
theorem mk_a107 {S : mj_S} (h : mk_Sh S) {j : Int} {u : Nat} (h1 : 0 ≤ j) (h2 : j < 12) : mj_ai S 107 j 20 u := ⟨Or.inl (h.t (n := 12) 107 rfl), h1, by rw [h.l (t := 20) 107 rfl]; exact h2⟩
theorem mk_t108 {S : mj_S} (h : mk_Sh S) : mj_tg S 108 = 20 := h.t (n := 6) 108 rfl
theorem mk_l108 {S : mj_S} (h : mk_Sh S) : mj_ln S 108 = 6 := h.l (t := 20) 108 rfl
theorem mk_a108 {S : mj_S} (h : mk_Sh S) {j : Int} {u : Nat} (h1 : 0 ≤ j) (h2 : j < 6) : mj_ai S 108 j 20 u := ⟨Or.inl (h.t (n := 6) 108 rfl), h1, by rw [h.l (t := 20) 108 rfl]; exact h2⟩
theorem mk_t109 {S : mj_S} (h : mk_Sh S) : mj_tg S 109 = 20 := h.t (n := 42) 109 rfl
theorem mk_l109 {S : mj_S} (h : mk_Sh S) : mj_ln S 109 = 42 := h.l (t := 20) 109 rfl
theorem mk_a109 {S : mj_S} (h : mk_Sh S) {j : Int} {u : Nat} (h1 : 0 ≤ j) (h2 : j < 42) : mj_ai S 109 j 20 u := ⟨Or.inl (h.t (n := 42) 109 rfl), h1, by rw [h.l (t := 20) 109 rfl]; exact h2⟩
theorem mk_t110 {S : mj_S} (h : mk_Sh S) : mj_tg S 110 = 20 := h.t (n := 7) 110 rfl
theorem mk_l110 {S : mj_S} (h : mk_Sh S) : mj_ln S 110 = 7 := h.l (t := 20) 110 rfl
theorem mk_a110 {S : mj_S} (h : mk_Sh S) {j : Int} {u : Nat} (h1 : 0 ≤ j) (h2 : j < 7) : mj_ai S 110 j 20 u := ⟨Or.inl (h.t (n := 7) 110 rfl), h1, by rw [h.l (t := 20) 110 rfl]; exact h2⟩
theorem mk_t111 {S : mj_S} (h : mk_Sh S) : mj_tg S 111 = 20 := h.t (n := 6) 111 rfl
theorem mk_l111 {S : mj_S} (h : mk_Sh S) : mj_ln S 111 = 6 := h.l (t := 20) 111 rfl
theorem mk_a111 {S : mj_S} (h : mk_Sh S) {j : Int} {u : Nat} (h1 : 0 ≤ j) (h2 : j < 6) : mj_ai S 111 j 20 u := ⟨Or.inl (h.t (n := 6) 111 rfl), h1, by rw [h.l (t := 20) 111 rfl]; exact h2⟩
theorem mk_t112 {S : mj_S} (h : mk_Sh S) : mj_tg S 112 = 7 := h.t (n := 3) 112 rfl
theorem mk_r112_0 {S : mj_S} (h : mk_Sh S) : mj_rf S 112 0 = 113 := h.r 112 0 rfl
theorem mk_r112_1 {S : mj_S} (h : mk_Sh S) : mj_rf S 112 1 = 114 := h.r 112 1 rfl
theorem mk_t113 {S : mj_S} (h : mk_Sh S) : mj_tg S 113 = 20 := h.t (n := 7) 113 rfl
theorem mk_l113 {S : mj_S} (h : mk_Sh S) : mj_ln S 113 = 7 := h.l (t := 20) 113 rfl
theorem mk_a113 {S : mj_S} (h : mk_Sh S) {j : Int} {u : Nat} (h1 : 0 ≤ j) (h2 : j < 7) : mj_ai S 113 j 20 u := ⟨Or.inl (h.t (n := 7) 113 rfl), h1, by rw [h.l (t := 20) 113 rfl]; exact h2⟩
theorem mk_t114 {S : mj_S} (h : mk_Sh S) : mj_tg S 114 = 20 := h.t (n := 7) 114 rfl
theorem mk_l114 {S : mj_S} (h : mk_Sh S) : mj_ln S 114 = 7 := h.l (t := 20) 114 rfl
theorem mk_a114 {S : mj_S} (h : mk_Sh S) {j : Int} {u : Nat} (h1 : 0 ≤ j) (h2 : j < 7) : mj_ai S 114 j 20 u := ⟨Or.inl (h.t (n := 7) 114 rfl), h1, by rw [h.l (t := 20) 114 rfl]; exact h2⟩
theorem mk_t115 {S : mj_S} (h : mk_Sh S) : mj_tg S 115 = 8 := h.t (n := 9) 115 rfl
theorem mk_r115_0 {S : mj_S} (h : mk_Sh S) : mj_rf S 115 0 = 116 := h.r 115 0 rfl
theorem mk_r115_7 {S : mj_S} (h : mk_Sh S) : mj_rf S 115 7 = 117 := h.r 115 7 rfl
theorem mk_t116 {S : mj_S} (h : mk_Sh S) : mj_tg S 116 = 20 := h.t (n := 96) 116 rfl
theorem mk_l116 {S : mj_S} (h : mk_Sh S) : mj_ln S 116 = 96 := h.l (t := 20) 116 rfl
theorem mk_a116 {S : mj_S} (h : mk_Sh S) {j : Int} {u : Nat} (h1 : 0 ≤ j) (h2 : j < 96) : mj_ai S 116 j 20 u := ⟨Or.inl (h.t (n := 96) 116 rfl), h1, by rw [h.l (t := 20) 116 rfl]; exact h2⟩
theorem mk_t117 {S : mj_S} (h : mk_Sh S) : mj_tg S 117 = 20 := h.t (n := 96) 117 rfl
theorem mk_l117 {S : mj_S} (h : mk_Sh S) : mj_ln S 117 = 96 := h.l (t := 20) 117 rfl
theorem mk_a117 {S : mj_S} (h : mk_Sh S) {j : Int} {u : Nat} (h1 : 0 ≤ j) (h2 : j < 96) : mj_ai S 117 j 20 u := ⟨Or.inl (h.t (n := 96) 117 rfl), h1, by rw [h.l (t := 20) 117 rfl]; exact h2⟩
theorem mk_t118 {S : mj_S} (h : mk_Sh S) : mj_tg S 118 = 59 := h.t (n := 4) 118 rfl
theorem mk_l118 {S : mj_S} (h : mk_Sh S) : mj_ln S 118 = 4 := h.l (t := 59) 118 rfl
theorem mk_t119 {S : mj_S} (h : mk_Sh S) : mj_tg S 119 = 60 := h.t (n := 5) 119 rfl
theorem mk_l119 {S : mj_S} (h : mk_Sh S) : mj_ln S 119 = 5 := h.l (t := 60) 119 rfl
theorem mk_t120 {S : mj_S} (h : mk_Sh S) : mj_tg S 120 = 20 := h.t (n := 60) 120 rfl
theorem mk_l120 {S : mj_S} (h : mk_Sh S) : mj_ln S 120 = 60 := h.l (t := 20) 120 rfl
theorem mk_a120 {S : mj_S} (h : mk_Sh S) {j : Int} {u : Nat} (h1 : 0 ≤ j) (h2 : j < 60) : mj_ai S 120 j 20 u := ⟨Or.inl (h.t (n := 60) 120 rfl), h1, by rw [h.l (t := 20) 120 rfl]; exact h2⟩
theorem mk_t121 {S : mj_S} (h : mk_Sh S) : mj_tg S 121 = 20 := h.t (n := 7) 121 rfl
theorem mk_l121 {S : mj_S} (h : mk_Sh S) : mj_ln S 121 = 7 := h.l (t := 20) 121 rfl
theorem mk_a121 {S : mj_S} (h : mk_Sh S) {j : Int} {u : Nat} (h1 : 0 ≤ j) (h2 : j < 7) : mj_ai S 121 j 20 u := ⟨Or.inl (h.t (n := 7) 121 rfl), h1, by rw [h.l (t := 20) 121 rfl]; exact h2⟩
theorem mk_t122 {S : mj_S} (h : mk_Sh S) : mj_tg S 122 = 9 := h.t (n := 3) 122 rfl
theorem mk_r122_2 {S : mj_S} (h : mk_Sh S) : mj_rf S 122 2 = 123 := h.r 122 2 rfl
theorem mk_t123 {S : mj_S} (h : mk_Sh S) : mj_tg S 123 = 21 := h.t (n := 24) 123 rfl
theorem mk_l123 {S : mj_S} (h : mk_Sh S) : mj_ln S 123 = 24 := h.l (t := 21) 123 rfl
theorem mk_a123 {S : mj_S} (h : mk_Sh S) {j : Int} {u : Nat} (h1 : 0 ≤ j) (h2 : j < 24) : mj_ai S 123 j 21 u := ⟨Or.inl (h.t (n := 24) 123 rfl), h1, by rw [h.l (t := 21) 123 rfl]; exact h2⟩
theorem mk_t124 {S : mj_S} (h : mk_Sh S) : mj_tg S 124 = 9 := h.t (n := 3) 124 rfl
theorem mk_r124_2 {S : mj_S} (h : mk_Sh S) : mj_rf S 124 2 = 125 := h.r 124 2 rfl
theorem mk_t125 {S : mj_S} (h : mk_Sh S) : mj_tg S 125 = 21 := h.t (n := 24) 125 rfl
theorem mk_l125 {S : mj_S} (h : mk_Sh S) : mj_ln S 125 = 24 := h.l (t := 21) 125 rfl
theorem mk_a125 {S : mj_S} (h : mk_Sh S) {j : Int} {u : Nat} (h1 : 0 ≤ j) (h2 : j < 24) : mj_ai S 125 j 21 u := ⟨Or.inl (h.t (n := 24) 125 rfl), h1, by rw [h.l (t := 21) 125 rfl]; exact h2⟩
theorem mk_t126 {S : mj_S} (h : mk_Sh S) : mj_tg S 126 = 9 := h.t (n := 3) 126 rfl
theorem mk_r126_2 {S : mj_S} (h : mk_Sh S) : mj_rf S 126 2 = 127 := h.r 126 2 rfl
theorem mk_t127 {S : mj_S} (h : mk_Sh S) : mj_tg S 127 = 21 := h.t (n := 24) 127 rfl
theorem mk_l127 {S : mj_S} (h : mk_Sh S) : mj_ln S 127 = 24 := h.l (t := 21) 127 rfl
theorem mk_a127 {S : mj_S} (h : mk_Sh S) {j : Int} {u : Nat} (h1 : 0 ≤ j) (h2 : j < 24) : mj_ai S 127 j 21 u := ⟨Or.inl (h.t (n := 24) 127 rfl), h1, by rw [h.l (t := 21) 127 rfl]; exact h2⟩
theorem mk_t128 {S : mj_S} (h : mk_Sh S) : mj_tg S 128 = 9 := h.t (n := 3) 128 rfl
theorem mk_r128_2 {S : mj_S} (h : mk_Sh S) : mj_rf S 128 2 = 129 := h.r 128 2 rfl
theorem mk_t129 {S : mj_S} (h : mk_Sh S) : mj_tg S 129 = 21 := h.t (n := 24) 129 rfl
theorem mk_l129 {S : mj_S} (h : mk_Sh S) : mj_ln S 129 = 24 := h.l (t := 21) 129 rfl
theorem mk_a129 {S : mj_S} (h : mk_Sh S) {j : Int} {u : Nat} (h1 : 0 ≤ j) (h2 : j < 24) : mj_ai S 129 j 21 u := ⟨Or.inl (h.t (n := 24) 129 rfl), h1, by rw [h.l (t := 21) 129 rfl]; exact h2⟩
theorem mk_t130 {S : mj_S} (h : mk_Sh S) : mj_tg S 130 = 10 := h.t (n := 4) 130 rfl
theorem mk_r130_2 {S : mj_S} (h : mk_Sh S) : mj_rf S 130 2 = 131 := h.r 130 2 rfl
theorem mk_r130_3 {S : mj_S} (h : mk_Sh S) : mj_rf S 130 3 = 132 := h.r 130 3 rfl
theorem mk_t131 {S : mj_S} (h : mk_Sh S) : mj_tg S 131 = 5 := h.t (n := 4) 131 rfl
theorem mk_t132 {S : mj_S} (h : mk_Sh S) : mj_tg S 132 = 9 := h.t (n := 3) 132 rfl
theorem mk_r132_2 {S : mj_S} (h : mk_Sh S) : mj_rf S 132 2 = 133 := h.r 132 2 rfl
theorem mk_t133 {S : mj_S} (h : mk_Sh S) : mj_tg S 133 = 21 := h.t (n := 24) 133 rfl
theorem mk_l133 {S : mj_S} (h : mk_Sh S) : mj_ln S 133 = 24 := h.l (t := 21) 133 rfl
theorem mk_a133 {S : mj_S} (h : mk_Sh S) {j : Int} {u : Nat} (h1 : 0 ≤ j) (h2 : j < 24) : mj_ai S 133 j 21 u := ⟨Or.inl (h.t (n := 24) 133 rfl), h1, by rw [h.l (t := 21) 133 rfl]; exact h2⟩
theorem mk_t134 {S : mj_S} (h : mk_Sh S) : mj_tg S 134 = 10 := h.t (n := 4) 134 rfl
theorem mk_r134_2 {S : mj_S} (h : mk_Sh S) : mj_rf S 134 2 = 135 := h.r 134 2 rfl
theorem mk_r134_3 {S : mj_S} (h : mk_Sh S) : mj_rf S 134 3 = 136 := h.r 134 3 rfl
theorem mk_t135 {S : mj_S} (h : mk_Sh S) : mj_tg S 135 = 5 := h.t (n := 4) 135 rfl
theorem mk_t136 {S : mj_S} (h : mk_Sh S) : mj_tg S 136 = 9 := h.t (n := 3) 136 rfl
theorem mk_r136_2 {S : mj_S} (h : mk_Sh S) : mj_rf S 136 2 = 137 := h.r 136 2 rfl
theorem mk_t137 {S : mj_S} (h : mk_Sh S) : mj_tg S 137 = 21 := h.t (n := 24) 137 rfl
theorem mk_l137 {S : mj_S} (h : mk_Sh S) : mj_ln S 137 = 24 := h.l (t := 21) 137 rfl
theorem mk_a137 {S : mj_S} (h : mk_Sh S) {j : Int} {u : Nat} (h1 : 0 ≤ j) (h2 : j < 24) : mj_ai S 137 j 21 u := ⟨Or.inl (h.t (n := 24) 137 rfl), h1, by rw [h.l (t := 21) 137 rfl]; exact h2⟩
theorem mk_t138 {S : mj_S} (h : mk_Sh S) : mj_tg S 138 = 10 := h.t (n := 4) 138 rfl
theorem mk_r138_2 {S : mj_S} (h : mk_Sh S) : mj_rf S 138 2 = 139 := h.r 138 2 rfl
theorem mk_r138_3 {S : mj_S} (h : mk_Sh S) : mj_rf S 138 3 = 140 := h.r 138 3 rfl
theorem mk_t139 {S : mj_S} (h : mk_Sh S) : mj_tg S 139 = 5 := h.t (n := 4) 139 rfl
theorem mk_t140 {S : mj_S} (h : mk_Sh S) : mj_tg S 140 = 9 := h.t (n := 3) 140 rfl
theorem mk_r140_2 {S : mj_S} (h : mk_Sh S) : mj_rf S 140 2 = 141 := h.r 140 2 rfl
theorem mk_t141 {S : mj_S} (h : mk_Sh S) : mj_tg S 141 = 21 := h.t (n := 24) 141 rfl
theorem mk_l141 {S : mj_S} (h : mk_Sh S) : mj_ln S 141 = 24 := h.l (t := 21) 141 rfl
theorem mk_a141 {S : mj_S} (h : mk_Sh S) {j : Int} {u : Nat} (h1 : 0 ≤ j) (h2 : j < 24) : mj_ai S 141 j 21 u := ⟨Or.inl (h.t (n := 24) 141 rfl), h1, by rw [h.l (t := 21) 141 rfl]; exact h2⟩
theorem mk_t142 {S : mj_S} (h : mk_Sh S) : mj_tg S 142 = 10 := h.t (n := 4) 142 rfl
theorem mk_r142_2 {S : mj_S} (h : mk_Sh S) : mj_rf S 142 2 = 143 := h.r 142 2 rfl
theorem mk_r142_3 {S : mj_S} (h : mk_Sh S) : mj_rf S 142 3 = 144 := h.r 142 3 rfl
theorem mk_t143 {S : mj_S} (h : mk_Sh S) : mj_tg S 143 = 5 := h.t (n := 4) 143 rfl
theorem mk_t144 {S : mj_S} (h : mk_Sh S) : mj_tg S 144 = 9 := h.t (n := 3) 144 rfl
theorem mk_r144_2 {S : mj_S} (h : mk_Sh S) : mj_rf S 144 2 = 145 := h.r 144 2 rfl
theorem mk_t145 {S : mj_S} (h : mk_Sh S) : mj_tg S 145 = 21 := h.t (n := 24) 145 rfl
theorem mk_l145 {S : mj_S} (h : mk_Sh S) : mj_ln S 145 = 24 := h.l (t := 21) 145 rfl
theorem mk_a145 {S : mj_S} (h : mk_Sh S) {j : Int} {u : Nat} (h1 : 0 ≤ j) (h2 : j < 24) : mj_ai S 145 j 21 u := ⟨Or.inl (h.t (n := 24) 145 rfl), h1, by rw [h.l (t := 21) 145 rfl]; exact h2⟩
theorem mk_t146 {S : mj_S} (h : mk_Sh S) : mj_tg S 146 = 10 := h.t (n := 4) 146 rfl
theorem mk_r146_2 {S : mj_S} (h : mk_Sh S) : mj_rf S 146 2 = 147 := h.r 146 2 rfl
theorem mk_r146_3 {S : mj_S} (h : mk_Sh S) : mj_rf S 146 3 = 148 := h.r 146 3 rfl
theorem mk_t147 {S : mj_S} (h : mk_Sh S) : mj_tg S 147 = 5 := h.t (n := 4) 147 rfl
theorem mk_t148 {S : mj_S} (h : mk_Sh S) : mj_tg S 148 = 9 := h.t (n := 3) 148 rfl
theorem mk_r148_2 {S : mj_S} (h : mk_Sh S) : mj_rf S 148 2 = 149 := h.r 148 2 rfl
theorem mk_t149 {S : mj_S} (h : mk_Sh S) : mj_tg S 149 = 21 := h.t (n := 24) 149 rfl
theorem mk_l149 {S : mj_S} (h : mk_Sh S) : mj_ln S 149 = 24 := h.l (t := 21) 149 rfl
theorem mk_a149 {S : mj_S} (h : mk_Sh S) {j : Int} {u : Nat} (h1 : 0 ≤ j) (h2 : j < 24) : mj_ai S 149 j 21 u := ⟨Or.inl (h.t (n := 24) 149 rfl), h1, by rw [h.l (t := 21) 149 rfl]; exact h2⟩
theorem mk_t150 {S : mj_S} (h : mk_Sh S) : mj_tg S 150 = 12 := h.t (n := 48) 150 rfl
theorem mk_r150_0 {S : mj_S} (h : mk_Sh S) : mj_rf S 150 0 = 151 := h.r 150 0 rfl
theorem mk_r150_1 {S : mj_S} (h : mk_Sh S) : mj_rf S 150 1 = 152 := h.r 150 1 rfl
theorem mk_r150_2 {S : mj_S} (h : mk_Sh S) : mj_rf S 150 2 = 153 := h.r 150 2 rfl
theorem mk_r150_5 {S : mj_S} (h : mk_Sh S) : mj_rf S 150 5 = 154 := h.r 150 5 rfl
theorem mk_r150_6 {S : mj_S} (h : mk_Sh S) : mj_rf S 150 6 = 155 := h.r 150 6 rfl
theorem mk_r150_7 {S : mj_S} (h : mk_Sh S) : mj_rf S 150 7 = 156 := h.r 150 7 rfl
theorem mk_r150_15 {S : mj_S} (h : mk_Sh S) : mj_rf S 150 15 = 157 := h.r 150 15 rfl
theorem mk_r150_16 {S : mj_S} (h : mk_Sh S) : mj_rf S 150 16 = 158 := h.r 150 16 rfl
theorem mk_r150_17 {S : mj_S} (h : mk_Sh S) : mj_rf S 150 17 = 159 := h.r 150 17 rfl
theorem mk_r150_20 {S : mj_S} (h : mk_Sh S) : mj_rf S 150 20 = 160 := h.r 150 20 rfl
theorem mk_r150_22 {S : mj_S} (h : mk_Sh S) : mj_rf S 150 22 = 161 := h.r 150 22 rfl
theorem mk_r150_23 {S : mj_S} (h : mk_Sh S) : mj_rf S 150 23 = 162 := h.r 150 23 rfl
theorem mk_r150_24 {S : mj_S} (h : mk_Sh S) : mj_rf S 150 24 = 163 := h.r 150 24 rfl
theorem mk_r150_25 {S : mj_S} (h : mk_Sh S) : mj_rf S 150 25 = 164 := h.r 150 25 rfl
theorem mk_r150_29 {S : mj_S} (h : mk_Sh S) : mj_rf S 150 29 = 165 := h.r 150 29 rfl
theorem mk_r150_30 {S : mj_S} (h : mk_Sh S) : mj_rf S 150 30 = 166 := h.r 150 30 rfl
theorem mk_r150_33 {S : mj_S} (h : mk_Sh S) : mj_rf S 150 33 = 167 := h.r 150 33 rfl
theorem mk_r150_34 {S : mj_S} (h : mk_Sh S) : mj_rf S 150 34 = 168 := h.r 150 34 rfl
theorem mk_r150_35 {S : mj_S} (h : mk_Sh S) : mj_rf S 150 35 = 169 := h.r 150 35 rfl
theorem mk_r150_36 {S : mj_S} (h : mk_Sh S) : mj_rf S 150 36 = 170 := h.r 150 36 rfl
theorem mk_r150_37 {S : mj_S} (h : mk_Sh S) : mj_rf S 150 37 = 171 := h.r 150 37 rfl
theorem mk_r150_38 {S : mj_S} (h : mk_Sh S) : mj_rf S 150 38 = 172 := h.r 150 38 rfl
theorem mk_r150_39 {S : mj_S} (h : mk_Sh S) : mj_rf S 150 39 = 173 := h.r 150 39 rfl
theorem mk_r150_40 {S : mj_S} (h : mk_Sh S) : mj_rf S 150 40 = 174 := h.r 150 40 rfl
theorem mk_r150_41 {S : mj_S} (h : mk_Sh S) : mj_rf S 150 41 = 175 := h.r 150 41 rfl
theorem mk_r150_42 {S : mj_S} (h : mk_Sh S) : mj_rf S 150 42 = 176 := h.r 150 42 rfl
theorem mk_r150_43 {S : mj_S} (h : mk_Sh S) : mj_rf S 150 43 = 177 := h.r 150 43 rfl
theorem mk_r150_44 {S : mj_S} (h : mk_Sh S) : mj_rf S 150 44 = 178 := h.r 150 44 rfl
theorem mk_r150_45 {S : mj_S} (h : mk_Sh S) : mj_rf S 150 45 = 179 := h.r 150 45 rfl
theorem mk_r150_46 {S : mj_S} (h : mk_Sh S) : mj_rf S 150 46 = 180 := h.r 150 46 rfl
theorem mk_t151 {S : mj_S} (h : mk_Sh S) : mj_tg S 151 = 20 := h.t (n := 1610) 151 rfl
theorem mk_l151 {S : mj_S} (h : mk_Sh S) : mj_ln S 151 = 1610 := h.l (t := 20) 151 rfl
theorem mk_a151 {S : mj_S} (h : mk_Sh S) {j : Int} {u : Nat} (h1 : 0 ≤ j) (h2 : j < 1610) : mj_ai S 151 j 20 u := ⟨Or.inl (h.t (n := 1610) 151 rfl), h1, by rw [h.l (t := 20) 151 rfl]; exact h2⟩
theorem mk_t152 {S : mj_S} (h : mk_Sh S) : mj_tg S 152 = 20 := h.t (n := 1610) 152 rfl
theorem mk_l152 {S : mj_S} (h : mk_Sh S) : mj_ln S 152 = 1610 := h.l (t := 20) 152 rfl
theorem mk_a152 {S : mj_S} (h : mk_Sh S) {j : Int} {u : Nat} (h1 : 0 ≤ j) (h2 : j < 1610) : mj_ai S 152 j 20 u := ⟨Or.inl (h.t (n := 1610) 152 rfl), h1, by rw [h.l (t := 20) 152 rfl]; exact h2⟩
theorem mk_t153 {S : mj_S} (h : mk_Sh S) : mj_tg S 153 = 20 := h.t (n := 1610) 153 rfl
theorem mk_l153 {S : mj_S} (h : mk_Sh S) : mj_ln S 153 = 1610 := h.l (t := 20) 153 rfl
theorem mk_a153 {S : mj_S} (h : mk_Sh S) {j : Int} {u : Nat} (h1 : 0 ≤ j) (h2 : j < 1610) : mj_ai S 153 j 20 u := ⟨Or.inl (h.t (n := 1610) 153 rfl), h1, by rw [h.l (t := 20) 153 rfl]; exact h2⟩
theorem mk_t154 {S : mj_S} (h : mk_Sh S) : mj_tg S 154 = 20 := h.t (n := 7) 154 rfl
theorem mk_l154 {S : mj_S} (h : mk_Sh S) : mj_ln S 154 = 7 := h.l (t := 20) 154 rfl
theorem mk_a154 {S : mj_S} (h : mk_Sh S) {j : Int} {u : Nat} (h1 : 0 ≤ j) (h2 : j < 7) : mj_ai S 154 j 20 u := ⟨Or.inl (h.t (n := 7) 154 rfl), h1, by rw [h.l (t := 20) 154 rfl]; exact h2⟩
theorem mk_t155 {S : mj_S} (h : mk_Sh S) : mj_tg S 155 = 20 := h.t (n := 6) 155 rfl
theorem mk_l155 {S : mj_S} (h : mk_Sh S) : mj_ln S 155 = 6 := h.l (t := 20) 155 rfl
theorem mk_a155 {S : mj_S} (h : mk_Sh S) {j : Int} {u : Nat} (h1 : 0 ≤ j) (h2 : j < 6) : mj_ai S 155 j 20 u := ⟨Or.inl (h.t (n := 6) 155 rfl), h1, by rw [h.l (t := 20) 155 rfl]; exact h2⟩
theorem mk_t156 {S : mj_S} (h : mk_Sh S) : mj_tg S 156 = 20 := h.t (n := 96) 156 rfl
theorem mk_l156 {S : mj_S} (h : mk_Sh S) : mj_ln S 156 = 96 := h.l (t := 20) 156 rfl
theorem mk_a156 {S : mj_S} (h : mk_Sh S) {j : Int} {u : Nat} (h1 : 0 ≤ j) (h2 : j < 96) : mj_ai S 156 j 20 u := ⟨Or.inl (h.t (n := 96) 156 rfl), h1, by rw [h.l (t := 20) 156 rfl]; exact h2⟩
theorem mk_t157 {S : mj_S} (h : mk_Sh S) : mj_tg S 157 = 23 := h.t (n := 11) 157 rfl
theorem mk_l157 {S : mj_S} (h : mk_Sh S) : mj_ln S 157 = 11 := h.l (t := 23) 157 rfl
theorem mk_t158 {S : mj_S} (h : mk_Sh S) : mj_tg S 158 = 20 := h.t (n := 4) 158 rfl
theorem mk_l158 {S : mj_S} (h : mk_Sh S) : mj_ln S 158 = 4 := h.l (t := 20) 158 rfl
theorem mk_a158 {S : mj_S} (h : mk_Sh S) {j : Int} {u : Nat} (h1 : 0 ≤ j) (h2 : j < 4) : mj_ai S 158 j 20 u := ⟨Or.inl (h.t (n := 4) 158 rfl), h1, by rw [h.l (t := 20) 158 rfl]; exact h2⟩
theorem mk_t159 {S : mj_S} (h : mk_Sh S) : mj_tg S 159 = 20 := h.t (n := 96) 159 rfl
theorem mk_l159 {S : mj_S} (h : mk_Sh S) : mj_ln S 159 = 96 := h.l (t := 20) 159 rfl
theorem mk_a159 {S : mj_S} (h : mk_Sh S) {j : Int} {u : Nat} (h1 : 0 ≤ j) (h2 : j < 96) : mj_ai S 159 j 20 u := ⟨Or.inl (h.t (n := 96) 159 rfl), h1, by rw [h.l (t := 20) 159 rfl]; exact h2⟩
theorem mk_t160 {S : mj_S} (h : mk_Sh S) : mj_tg S 160 = 20 := h.t (n := 96) 160 rfl
theorem mk_l160 {S : mj_S} (h : mk_Sh S) : mj_ln S 160 = 96 := h.l (t := 20) 160 rfl
theorem mk_a160 {S : mj_S} (h : mk_Sh S) {j : Int} {u : Nat} (h1 : 0 ≤ j) (h2 : j < 96) : mj_ai S 160 j 20 u := ⟨Or.inl (h.t (n := 96) 160 rfl), h1, by rw [h.l (t := 20) 160 rfl]; exact h2⟩
theorem mk_t161 {S : mj_S} (h : mk_Sh S) : mj_tg S 161 = 22 := h.t (n := 10) 161 rfl
theorem mk_l161 {S : mj_S} (h : mk_Sh S) : mj_ln S 161 = 10 := h.l (t := 22) 161 rfl
theorem mk_t162 {S : mj_S} (h : mk_Sh S) : mj_tg S 162 = 20 := h.t (n := 96) 162 rfl
theorem mk_l162 {S : mj_S} (h : mk_Sh S) : mj_ln S 162 = 96 := h.l (t := 20) 162 rfl
theorem mk_a162 {S : mj_S} (h : mk_Sh S) {j : Int} {u : Nat} (h1 : 0 ≤ j) (h2 : j < 96) : mj_ai S 162 j 20 u := ⟨Or.inl (h.t (n := 96) 162 rfl), h1, by rw [h.l (t := 20) 162 rfl]; exact h2⟩
theorem mk_t163 {S : mj_S} (h : mk_Sh S) : mj_tg S 163 = 20 := h.t (n := 4) 163 rfl
theorem mk_l163 {S : mj_S} (h : mk_Sh S) : mj_ln S 163 = 4 := h.l (t := 20) 163 rfl
theorem mk_a163 {S : mj_S} (h : mk_Sh S) {j : Int} {u : Nat} (h1 : 0 ≤ j) (h2 : j < 4) : mj_ai S 163 j 20 u := ⟨Or.inl (h.t (n := 4) 163 rfl), h1, by rw [h.l (t := 20) 163 rfl]; exact h2⟩
theorem mk_t164 {S : mj_S} (h : mk_Sh S) : mj_tg S 164 = 20 := h.t (n := 6) 164 rfl
theorem mk_l164 {S : mj_S} (h : mk_Sh S) : mj_ln S 164 = 6 := h.l (t := 20) 164 rfl
theorem mk_a164 {S : mj_S} (h : mk_Sh S) {j : Int} {u : Nat} (h1 : 0 ≤ j) (h2 : j < 6) : mj_ai S 164 j 20 u := ⟨Or.inl (h.t (n := 6) 164 rfl), h1, by rw [h.l (t := 20) 164 rfl]; exact h2⟩
theorem mk_t165 {S : mj_S} (h : mk_Sh S) : mj_tg S 165 = 20 := h.t (n := 6) 165 rfl
theorem mk_l165 {S : mj_S} (h : mk_Sh S) : mj_ln S 165 = 6 := h.l (t := 20) 165 rfl
theorem mk_a165 {S : mj_S} (h : mk_Sh S) {j : Int} {u : Nat} (h1 : 0 ≤ j) (h2 : j < 6) : mj_ai S 165 j 20 u := ⟨Or.inl (h.t (n := 6) 165 rfl), h1, by rw [h.l (t := 20) 165 rfl]; exact h2⟩
theorem mk_t166 {S : mj_S} (h : mk_Sh S) : mj_tg S 166 = 20 := h.t (n := 6) 166 rfl
theorem mk_l166 {S : mj_S} (h : mk_Sh S) : mj_ln S 166 = 6 := h.l (t := 20) 166 rfl
theorem mk_a166 {S : mj_S} (h : mk_Sh S) {j : Int} {u : Nat} (h1 : 0 ≤ j) (h2 : j < 6) : mj_ai S 166 j 20 u := ⟨Or.inl (h.t (n := 6) 166 rfl), h1, by rw [h.l (t := 20) 166 rfl]; exact h2⟩
theorem mk_t167 {S : mj_S} (h : mk_Sh S) : mj_tg S 167 = 20 := h.t (n := 7) 167 rfl
theorem mk_l167 {S : mj_S} (h : mk_Sh S) : mj_ln S 167 = 7 := h.l (t := 20) 167 rfl
theorem mk_a167 {S : mj_S} (h : mk_Sh S) {j : Int} {u : Nat} (h1 : 0 ≤ j) (h2 : j < 7) : mj_ai S 167 j 20 u := ⟨Or.inl (h.t (n := 7) 167 rfl), h1, by rw [h.l (t := 20) 167 rfl]; exact h2⟩
theorem mk_t168 {S : mj_S} (h : mk_Sh S) : mj_tg S 168 = 20 := h.t (n := 7) 168 rfl
theorem mk_l168 {S : mj_S} (h : mk_Sh S) : mj_ln S 168 = 7 := h.l (t := 20) 168 rfl
theorem mk_a168 {S : mj_S} (h : mk_Sh S) {j : Int} {u : Nat} (h1 : 0 ≤ j) (h2 : j < 7) : mj_ai S 168 j 20 u := ⟨Or.inl (h.t (n := 7) 168 rfl), h1, by rw [h.l (t := 20) 168 rfl]; exact h2⟩
theorem mk_t169 {S : mj_S} (h : mk_Sh S) : mj_tg S 169 = 20 := h.t (n := 42) 169 rfl
theorem mk_l169 {S : mj_S} (h : mk_Sh S) : mj_ln S 169 = 42 := h.l (t := 20) 169 rfl
theorem mk_a169 {S : mj_S} (h : mk_Sh S) {j : Int} {u : Nat} (h1 : 0 ≤ j) (h2 : j < 42) : mj_ai S 169 j 20 u := ⟨Or.inl (h.t (n := 42) 169 rfl), h1, by rw [h.l (t := 20) 169 rfl]; exact h2⟩
theorem mk_t170 {S : mj_S} (h : mk_Sh S) : mj_tg S 170 = 20 := h.t (n := 7) 170 rfl
theorem mk_l170 {S : mj_S} (h : mk_Sh S) : mj_ln S 170 = 7 := h.l (t := 20) 170 rfl
theorem mk_a170 {S : mj_S} (h : mk_Sh S) {j : Int} {u : Nat} (h1 : 0 ≤ j) (h2 : j < 7) : mj_ai S 170 j 20 u := ⟨Or.inl (h.t (n := 7) 170 rfl), h1, by rw [h.l (t := 20) 170 rfl]; exact h2⟩
theorem mk_t171 {S : mj_S} (h : mk_Sh S) : mj_tg S 171 = 20 := h.t (n := 7) 171 rfl
theorem mk_l171 {S : mj_S} (h : mk_Sh S) : mj_ln S 171 = 7 := h.l (t := 20) 171 rfl
theorem mk_a171 {S : mj_S} (h : mk_Sh S) {j : Int} {u : Nat} (h1 : 0 ≤ j) (h2 : j < 7) : mj_ai S 171 j 20 u := ⟨Or.inl (h.t (n := 7) 171 rfl), h1, by rw [h.l (t := 20) 171 rfl]; exact h2⟩
theorem mk_t172 {S : mj_S} (h : mk_Sh S) : mj_tg S 172 = 20 := h.t (n := 4) 172 rfl
theorem mk_l172 {S : mj_S} (h : mk_Sh S) : mj_ln S 172 = 4 := h.l (t := 20) 172 rfl
theorem mk_a172 {S : mj_S} (h : mk_Sh S) {j : Int} {u : Nat} (h1 : 0 ≤ j) (h2 : j < 4) : mj_ai S 172 j 20 u := ⟨Or.inl (h.t (n := 4) 172 rfl), h1, by rw [h.l (t := 20) 172 rfl]; exact h2⟩
theorem mk_t173 {S : mj_S} (h : mk_Sh S) : mj_tg S 173 = 20 := h.t (n := 4) 173 rfl
theorem mk_l173 {S : mj_S} (h : mk_Sh S) : mj_ln S 173 = 4 := h.l (t := 20) 173 rfl
theorem mk_a173 {S : mj_S} (h : mk_Sh S) {j : Int} {u : Nat} (h1 : 0 ≤ j) (h2 : j < 4) : mj_ai S 173 j 20 u := ⟨Or.inl (h.t (n := 4) 173 rfl), h1, by rw [h.l (t := 20) 173 rfl]; exact h2⟩
theorem mk_t174 {S : mj_S} (h : mk_Sh S) : mj_tg S 174 = 20 := h.t (n := 96) 174 rfl
theorem mk_l174 {S : mj_S} (h : mk_Sh S) : mj_ln S 174 = 96 := h.l (t := 20) 174 rfl
theorem mk_a174 {S : mj_S} (h : mk_Sh S) {j : Int} {u : Nat} (h1 : 0 ≤ j) (h2 : j < 96) : mj_ai S 174 j 20 u := ⟨Or.inl (h.t (n := 96) 174 rfl), h1, by rw [h.l (t := 20) 174 rfl]; exact h2⟩
theorem mk_t175 {S : mj_S} (h : mk_Sh S) : mj_tg S 175 = 20 := h.t (n := 5) 175 rfl
theorem mk_l175 {S : mj_S} (h : mk_Sh S) : mj_ln S 175 = 5 := h.l (t := 20) 175 rfl
theorem mk_a175 {S : mj_S} (h : mk_Sh S) {j : Int} {u : Nat} (h1 : 0 ≤ j) (h2 : j < 5) : mj_ai S 175 j 20 u := ⟨Or.inl (h.t (n := 5) 175 rfl), h1, by rw [h.l (t := 20) 175 rfl]; exact h2⟩
theorem mk_t176 {S : mj_S} (h : mk_Sh S) : mj_tg S 176 = 20 := h.t (n := 5) 176 rfl
theorem mk_l176 {S : mj_S} (h : mk_Sh S) : mj_ln S 176 = 5 := h.l (t := 20) 176 rfl
theorem mk_a176 {S : mj_S} (h : mk_Sh S) {j : Int} {u : Nat} (h1 : 0 ≤ j) (h2 : j < 5) : mj_ai S 176 j 20 u := ⟨Or.inl (h.t (n := 5) 176 rfl), h1, by rw [h.l (t := 20) 176 rfl]; exact h2⟩
theorem mk_t177 {S : mj_S} (h : mk_Sh S) : mj_tg S 177 = 20 := h.t (n := 5) 177 rfl
theorem mk_l177 {S : mj_S} (h : mk_Sh S) : mj_ln S 177 = 5 := h.l (t := 20) 177 rfl
theorem mk_a177 {S : mj_S} (h : mk_Sh S) {j : Int} {u : Nat} (h1 : 0 ≤ j) (h2 : j < 5) : mj_ai S 177 j 20 u := ⟨Or.inl (h.t (n := 5) 177 rfl), h1, by rw [h.l (t := 20) 177 rfl]; exact h2⟩
theorem mk_t178 {S : mj_S} (h : mk_Sh S) : mj_tg S 178 = 20 := h.t (n := 120) 178 rfl
theorem mk_l178 {S : mj_S} (h : mk_Sh S) : mj_ln S 178 = 120 := h.l (t := 20) 178 rfl
theorem mk_a178 {S : mj_S} (h : mk_Sh S) {j : Int} {u : Nat} (h1 : 0 ≤ j) (h2 : j < 120) : mj_ai S 178 j 20 u := ⟨Or.inl (h.t (n := 120) 178 rfl), h1, by rw [h.l (t := 20) 178 rfl]; exact h2⟩
theorem mk_t179 {S : mj_S} (h : mk_Sh S) : mj_tg S 179 = 20 := h.t (n := 24) 179 rfl
theorem mk_l179 {S : mj_S} (h : mk_Sh S) : mj_ln S 179 = 24 := h.l (t := 20) 179 rfl
theorem mk_a179 {S : mj_S} (h : mk_Sh S) {j : Int} {u : Nat} (h1 : 0 ≤ j) (h2 : j < 24) : mj_ai S 179 j 20 u := ⟨Or.inl (h.t (n := 24) 179 rfl), h1, by rw [h.l (t := 20) 179 rfl]; exact h2⟩
theorem mk_t180 {S : mj_S} (h : mk_Sh S) : mj_tg S 180 = 20 := h.t (n := 60) 180 rfl
theorem mk_l180 {S : mj_S} (h : mk_Sh S) : mj_ln S 180 = 60 := h.l (t := 20) 180 rfl
theorem mk_a180 {S : mj_S} (h : mk_Sh S) {j : Int} {u : Nat} (h1 : 0 ≤ j) (h2 : j < 60) : mj_ai S 180 j 20 u := ⟨Or.inl (h.t (n := 60) 180 rfl), h1, by rw [h.l (t := 20) 180 rfl]; exact h2⟩
theorem mk_r118 {S : mj_S} (h : mk_Sh S) (k : Nat) (hk : k < 4) : mj_rf S 118 k = 122 + 2 * k := by
  have q : k = 0 ∨ k = 1 ∨ k = 2 ∨ k = 3 := by omega
  rcases q with q | q | q | q <;> subst q
  · exact h.r 118 0 rfl
  · exact h.r 118 1 rfl
  · exact h.r 118 2 rfl
  · exact h.r 118 3 rfl
theorem mk_r119 {S : mj_S} (h : mk_Sh S) (k : Nat) (hk : k < 5) : mj_rf S 119 k = 130 + 4 * k := by
  have q : k = 0 ∨ k = 1 ∨ k = 2 ∨ k = 3 ∨ k = 4 := by omega
  rcases q with q | q | q | q | q <;> subst q
  · exact h.r 119 0 rfl
  · exact h.r 119 1 rfl
  · exact h.r 119 2 rfl
  · exact h.r 119 3 rfl
  · exact h.r 119 4 rfl
theorem mk_tSheet {S : mj_S} (h : mk_Sh S) (k : Nat) (hk : k < 4) : mj_tg S (122 + 2 * k) = 9 := by
  have q : k = 0 ∨ k = 1 ∨ k = 2 ∨ k = 3 := by omega
  rcases q with q | q | q | q <;> subst q
  · exact h.t (n := 3) 122 rfl
  · exact h.t (n := 3) 124 rfl
  · exact h.t (n := 3) 126 rfl
  · exact h.t (n := 3) 128 rfl
theorem mk_rSheet {S : mj_S} (h : mk_Sh S) (k : Nat) (hk : k < 4) : mj_rf S (122 + 2 * k) 2 = 123 + 2 * k := by
  have q : k = 0 ∨ k = 1 ∨ k = 2 ∨ k = 3 := by omega
  rcases q with q | q | q | q <;> subst q
  · exact h.r 122 2 rfl
  · exact h.r 124 2 rfl
  · exact h.r 126 2 rfl
  · exact h.r 128 2 rfl
/-- one of the two books -/
def mB (b : Nat) : Prop := b = 21 ∨ b = 61
theorem mk_tb0 {S : mj_S} {b : Nat} (h : mk_Sh S) (hb : mB b) : mj_tg S b = 1 := by
  rcases hb with q | q <;> subst q
  · exact h.t (n := 18) 21 rfl
  · exact h.t (n := 18) 61 rfl
theorem mk_rb0_0 {S : mj_S} {b : Nat} (h : mk_Sh S) (hb : mB b) : mj_rf S b 0 = b + 1 := by
  rcases hb with q | q <;> subst q
  · exact h.r 21 0 rfl
  · exact h.r 61 0 rfl
theorem mk_rb0_2 {S : mj_S} {b : Nat} (h : mk_Sh S) (hb : mB b) : mj_rf S b 2 = b + 2 := by
  rcases hb with q | q <;> subst q
  · exact h.r 21 2 rfl
  · exact h.r 61 2 rfl
theorem mk_rb0_4 {S : mj_S} {b : Nat} (h : mk_Sh S) (hb : mB b) : mj_rf S b 4 = b + 3 := by
  rcases hb with q | q <;> subst q
  · exact h.r 21 4 rfl
  · exact h.r 61 4 rfl
theorem mk_rb0_6 {S : mj_S} {b : Nat} (h : mk_Sh S) (hb : mB b) : mj_rf S b 6 = b + 4 := by
  rcases hb with q | q <;> subst q
  · exact h.r 21 6 rfl
  · exact h.r 61 6 rfl
theorem mk_rb0_8 {S : mj_S} {b : Nat} (h : mk_Sh S) (hb : mB b) : mj_rf S b 8 = b + 5 := by
  rcases hb with q | q <;> subst q
  · exact h.r 21 8 rfl
  · exact h.r 61 8 rfl
theorem mk_rb0_9 {S : mj_S} {b : Nat} (h : mk_Sh S) (hb : mB b) : mj_rf S b 9 = b + 6 := by
  rcases hb with q | q <;> subst q
  · exact h.r 21 9 rfl
  · exact h.r 61 9 rfl
theorem mk_rb0_10 {S : mj_S} {b : Nat} (h : mk_Sh S) (hb : mB b) : mj_rf S b 10 = b + 7 := by
  rcases hb with q | q <;> subst q
  · exact h.r 21 10 rfl
  · exact h.r 61 10 rfl
theorem mk_rb0_12 {S : mj_S} {b : Nat} (h : mk_Sh S) (hb : mB b) : mj_rf S b 12 = b + 8 := by
  rcases hb with q | q <;> subst q
  · exact h.r 21 12 rfl
  · exact h.r 61 12 rfl
theorem mk_rb0_15 {S : mj_S} {b : Nat} (h : mk_Sh S) (hb : mB b) : mj_rf S b 15 = b + 12 := by
  rcases hb with q | q <;> subst q
  · exact h.r 21 15 rfl
  · exact h.r 61 15 rfl
theorem mk_rb0_16 {S : mj_S} {b : Nat} (h : mk_Sh S) (hb : mB b) : mj_rf S b 16 = b + 13 := by
  rcases hb with q | q <;> subst q
  · exact h.r 21 16 rfl
  · exact h.r 61 16 rfl
theorem mk_rb0_17 {S : mj_S} {b : Nat} (h : mk_Sh S) (hb : mB b) : mj_rf S b 17 = b + 14 := by
  rcases hb with q | q <;> subst q
  · exact h.r 21 17 rfl
  · exact h.r 61 17 rfl
theorem mk_tb1 {S : mj_S} {b : Nat} (h : mk_Sh S) (hb : mB b) : mj_tg S (b + 1) = 53 := by
  rcases hb with q | q <;> subst q
  · exact h.t (n := 7) 22 rfl
  · exact h.t (n := 7) 62 rfl
theorem mk_lb1 {S : mj_S} {b : Nat} (h : mk_Sh S) (hb : mB b) : mj_ln S (b + 1) = 7 := by
  rcases hb with q | q <;> subst q
  · exact h.l (t := 53) 22 rfl
  · exact h.l (t := 53) 62 rfl
theorem mk_aq1 {S : mj_S} {b : Nat} (h : mk_Sh S) (hb : mB b) : ∀ {j : Int}, 0 ≤ j → j < 7 → mj_aq S (b + 1) j := by
  rcases hb with q | q <;> subst q
  · exact fun {j} h1 h2 => ⟨by rw [h.t (n := 7) 22 rfl]; decide, h1, by rw [h.l (t := 53) 22 rfl]; exact h2⟩
  · exact fun {j} h1 h2 => ⟨by rw [h.t (n := 7) 62 rfl]; decide, h1, by rw [h.l (t := 53) 62 rfl]; exact h2⟩
theorem mk_tb2 {S : mj_S} {b : Nat} (h : mk_Sh S) (hb : mB b) : mj_tg S (b + 2) = 54 := by
  rcases hb with q | q <;> subst q
  · exact h.t (n := 6) 23 rfl
  · exact h.t (n := 6) 63 rfl
theorem mk_lb2 {S : mj_S} {b : Nat} (h : mk_Sh S) (hb : mB b) : mj_ln S (b + 2) = 6 := by
  rcases hb with q | q <;> subst q
  · exact h.l (t := 54) 23 rfl
  · exact h.l (t := 54) 63 rfl
theorem mk_aq2 {S : mj_S} {b : Nat} (h : mk_Sh S) (hb : mB b) : ∀ {j : Int}, 0 ≤ j → j < 6 → mj_aq S (b + 2) j := by
  rcases hb with q | q <;> subst q
  · exact fun {j} h1 h2 => ⟨by rw [h.t (n := 6) 23 rfl]; decide, h1, by rw [h.l (t := 54) 23 rfl]; exact h2⟩
  · exact fun {j} h1 h2 => ⟨by rw [h.t (n := 6) 63 rfl]; decide, h1, by rw [h.l (t := 54) 63 rfl]; exact h2⟩
theorem mk_tb3 {S : mj_S} {b : Nat} (h : mk_Sh S) (hb : mB b) : mj_tg S (b + 3) = 55 := by
  rcases hb with q | q <;> subst q
  · exact h.t (n := 12) 24 rfl
  · exact h.t (n := 12) 64 rfl
theorem mk_lb3 {S : mj_S} {b : Nat} (h : mk_Sh S) (hb : mB b) : mj_ln S (b + 3) = 12 := by
  rcases hb with q | q <;> subst q
  · exact h.l (t := 55) 24 rfl
  · exact h.l (t := 55) 64 rfl
theorem mk_aq3 {S : mj_S} {b : Nat} (h : mk_Sh S) (hb : mB b) : ∀ {j : Int}, 0 ≤ j → j < 12 → mj_aq S (b + 3) j := by
  rcases hb with q | q <;> subst q
  · exact fun {j} h1 h2 => ⟨by rw [h.t (n := 12) 24 rfl]; decide, h1, by rw [h.l (t := 55) 24 rfl]; exact h2⟩
  · exact fun {j} h1 h2 => ⟨by rw [h.t (n := 12) 64 rfl]; decide, h1, by rw [h.l (t := 55) 64 rfl]; exact h2⟩
theorem mk_tb4 {S : mj_S} {b : Nat} (h : mk_Sh S) (hb : mB b) : mj_tg S (b + 4) = 61 := by
  rcases hb with q | q <;> subst q
  · exact h.t (n := 14) 25 rfl
  · exact h.t (n := 14) 65 rfl
theorem mk_lb4 {S : mj_S} {b : Nat} (h : mk_Sh S) (hb : mB b) : mj_ln S (b + 4) = 14 := by
  rcases hb with q | q <;> subst q
  · exact h.l (t := 61) 25 rfl
  · exact h.l (t := 61) 65 rfl
theorem mk_aq4 {S : mj_S} {b : Nat} (h : mk_Sh S) (hb : mB b) : ∀ {j : Int}, 0 ≤ j → j < 14 → mj_aq S (b + 4) j := by
  rcases hb with q | q <;> subst q
  · exact fun {j} h1 h2 => ⟨by rw [h.t (n := 14) 25 rfl]; decide, h1, by rw [h.l (t := 61) 25 rfl]; exact h2⟩
  · exact fun {j} h1 h2 => ⟨by rw [h.t (n := 14) 65 rfl]; decide, h1, by rw [h.l (t := 61) 65 rfl]; exact h2⟩
theorem mk_tb5 {S : mj_S} {b : Nat} (h : mk_Sh S) (hb : mB b) : mj_tg S (b + 5) = 20 := by
  rcases hb with q | q <;> subst q
  · exact h.t (n := 3) 26 rfl
  · exact h.t (n := 3) 66 rfl
theorem mk_lb5 {S : mj_S} {b : Nat} (h : mk_Sh S) (hb : mB b) : mj_ln S (b + 5) = 3 := by
  rcases hb with q | q <;> subst q
  · exact h.l (t := 20) 26 rfl
  · exact h.l (t := 20) 66 rfl
theorem mk_ab5 {S : mj_S} {b : Nat} (h : mk_Sh S) (hb : mB b) : ∀ {j : Int} {u : Nat}, 0 ≤ j → j < 3 → mj_ai S (b + 5) j 20 u := by
  rcases hb with q | q <;> subst q
  · exact fun {j u} h1 h2 => ⟨Or.inl (h.t (n := 3) 26 rfl), h1, by rw [h.l (t := 20) 26 rfl]; exact h2⟩
  · exact fun {j u} h1 h2 => ⟨Or.inl (h.t (n := 3) 66 rfl), h1, by rw [h.l (t := 20) 66 rfl]; exact h2⟩
theorem mk_tb6 {S : mj_S} {b : Nat} (h : mk_Sh S) (hb : mB b) : mj_tg S (b + 6) = 20 := by
  rcases hb with q | q <;> subst q
  · exact h.t (n := 6) 27 rfl
  · exact h.t (n := 6) 67 rfl
theorem mk_lb6 {S : mj_S} {b : Nat} (h : mk_Sh S) (hb : mB b) : mj_ln S (b + 6) = 6 := by
  rcases hb with q | q <;> subst q
  · exact h.l (t := 20) 27 rfl
  · exact h.l (t := 20) 67 rfl
theorem mk_ab6 {S : mj_S} {b : Nat} (h : mk_Sh S) (hb : mB b) : ∀ {j : Int} {u : Nat}, 0 ≤ j → j < 6 → mj_ai S (b + 6) j 20 u := by
  rcases hb with q | q <;> subst q
  · exact fun {j u} h1 h2 => ⟨Or.inl (h.t (n := 6) 27 rfl), h1, by rw [h.l (t := 20) 27 rfl]; exact h2⟩
  · exact fun {j u} h1 h2 => ⟨Or.inl (h.t (n := 6) 67 rfl), h1, by rw [h.l (t := 20) 67 rfl]; exact h2⟩
theorem mk_tb7 {S : mj_S} {b : Nat} (h : mk_Sh S) (hb : mB b) : mj_tg S (b + 7) = 20 := by
  rcases hb with q | q <;> subst q
  · exact h.t (n := 6) 28 rfl
  · exact h.t (n := 6) 68 rfl
theorem mk_lb7 {S : mj_S} {b : Nat} (h : mk_Sh S) (hb : mB b) : mj_ln S (b + 7) = 6 := by
  rcases hb with q | q <;> subst q
  · exact h.l (t := 20) 28 rfl
  · exact h.l (t := 20) 68 rfl
theorem mk_ab7 {S : mj_S} {b : Nat} (h : mk_Sh S) (hb : mB b) : ∀ {j : Int} {u : Nat}, 0 ≤ j → j < 6 → mj_ai S (b + 7) j 20 u := by
  rcases hb with q | q <;> subst q
  · exact fun {j u} h1 h2 => ⟨Or.inl (h.t (n := 6) 28 rfl), h1, by rw [h.l (t := 20) 28 rfl]; exact h2⟩
  · exact fun {j u} h1 h2 => ⟨Or.inl (h.t (n := 6) 68 rfl), h1, by rw [h.l (t := 20) 68 rfl]; exact h2⟩
theorem mk_tb8 {S : mj_S} {b : Nat} (h : mk_Sh S) (hb : mB b) : mj_tg S (b + 8) = 2 := by
  rcases hb with q | q <;> subst q
  · exact h.t (n := 4) 29 rfl
  · exact h.t (n := 4) 69 rfl
theorem mk_rb8_0 {S : mj_S} {b : Nat} (h : mk_Sh S) (hb : mB b) : mj_rf S (b + 8) 0 = b + 9 := by
  rcases hb with q | q <;> subst q
  · exact h.r 29 0 rfl
  · exact h.r 69 0 rfl
theorem mk_rb8_1 {S : mj_S} {b : Nat} (h : mk_Sh S) (hb : mB b) : mj_rf S (b + 8) 1 = b + 10 := by
  rcases hb with q | q <;> subst q
  · exact h.r 29 1 rfl
  · exact h.r 69 1 rfl
theorem mk_rb8_2 {S : mj_S} {b : Nat} (h : mk_Sh S) (hb : mB b) : mj_rf S (b + 8) 2 = b + 11 := by
  rcases hb with q | q <;> subst q
  · exact h.r 29 2 rfl
  · exact h.r 69 2 rfl
theorem mk_tb9 {S : mj_S} {b : Nat} (h : mk_Sh S) (hb : mB b) : mj_tg S (b + 9) = 20 := by
  rcases hb with q | q <;> subst q
  · exact h.t (n := 30) 30 rfl
  · exact h.t (n := 30) 70 rfl
theorem mk_lb9 {S : mj_S} {b : Nat} (h : mk_Sh S) (hb : mB b) : mj_ln S (b + 9) = 30 := by
  rcases hb with q | q <;> subst q
  · exact h.l (t := 20) 30 rfl
  · exact h.l (t := 20) 70 rfl
theorem mk_ab9 {S : mj_S} {b : Nat} (h : mk_Sh S) (hb : mB b) : ∀ {j : Int} {u : Nat}, 0 ≤ j → j < 30 → mj_ai S (b + 9) j 20 u := by
  rcases hb with q | q <;> subst q
  · exact fun {j u} h1 h2 => ⟨Or.inl (h.t (n := 30) 30 rfl), h1, by rw [h.l (t := 20) 30 rfl]; exact h2⟩
  · exact fun {j u} h1 h2 => ⟨Or.inl (h.t (n := 30) 70 rfl), h1, by rw [h.l (t := 20) 70 rfl]; exact h2⟩
theorem mk_tb10 {S : mj_S} {b : Nat} (h : mk_Sh S) (hb : mB b) : mj_tg S (b + 10) = 20 := by
  rcases hb with q | q <;> subst q
  · exact h.t (n := 30) 31 rfl
  · exact h.t (n := 30) 71 rfl
theorem mk_lb10 {S : mj_S} {b : Nat} (h : mk_Sh S) (hb : mB b) : mj_ln S (b + 10) = 30 := by
  rcases hb with q | q <;> subst q
  · exact h.l (t := 20) 31 rfl
  · exact h.l (t := 20) 71 rfl
theorem mk_ab10 {S : mj_S} {b : Nat} (h : mk_Sh S) (hb : mB b) : ∀ {j : Int} {u : Nat}, 0 ≤ j → j < 30 → mj_ai S (b + 10) j 20 u := by
  rcases hb with q | q <;> subst q
  · exact fun {j u} h1 h2 => ⟨Or.inl (h.t (n := 30) 31 rfl), h1, by rw [h.l (t := 20) 31 rfl]; exact h2⟩
  · exact fun {j u} h1 h2 => ⟨Or.inl (h.t (n := 30) 71 rfl), h1, by rw [h.l (t := 20) 71 rfl]; exact h2⟩
theorem mk_tb11 {S : mj_S} {b : Nat} (h : mk_Sh S) (hb : mB b) : mj_tg S (b + 11) = 20 := by
  rcases hb with q | q <;> subst q
  · exact h.t (n := 30) 32 rfl
  · exact h.t (n := 30) 72 rfl
theorem mk_lb11 {S : mj_S} {b : Nat} (h : mk_Sh S) (hb : mB b) : mj_ln S (b + 11) = 30 := by
  rcases hb with q | q <;> subst q
  · exact h.l (t := 20) 32 rfl
  · exact h.l (t := 20) 72 rfl
theorem mk_ab11 {S : mj_S} {b : Nat} (h : mk_Sh S) (hb : mB b) : ∀ {j : Int} {u : Nat}, 0 ≤ j → j < 30 → mj_ai S (b + 11) j 20 u := by
  rcases hb with q | q <;> subst q
  · exact fun {j u} h1 h2 => ⟨Or.inl (h.t (n := 30) 32 rfl), h1, by rw [h.l (t := 20) 32 rfl]; exact h2⟩
  · exact fun {j u} h1 h2 => ⟨Or.inl (h.t (n := 30) 72 rfl), h1, by rw [h.l (t := 20) 72 rfl]; exact h2⟩
theorem mk_tb12 {S : mj_S} {b : Nat} (h : mk_Sh S) (hb : mB b) : mj_tg S (b + 12) = 20 := by
  rcases hb with q | q <;> subst q
  · exact h.t (n := 5) 33 rfl
  · exact h.t (n := 5) 73 rfl
theorem mk_lb12 {S : mj_S} {b : Nat} (h : mk_Sh S) (hb : mB b) : mj_ln S (b + 12) = 5 := by
  rcases hb with q | q <;> subst q
  · exact h.l (t := 20) 33 rfl
  · exact h.l (t := 20) 73 rfl
theorem mk_ab12 {S : mj_S} {b : Nat} (h : mk_Sh S) (hb : mB b) : ∀ {j : Int} {u : Nat}, 0 ≤ j → j < 5 → mj_ai S (b + 12) j 20 u := by
  rcases hb with q | q <;> subst q
  · exact fun {j u} h1 h2 => ⟨Or.inl (h.t (n := 5) 33 rfl), h1, by rw [h.l (t := 20) 33 rfl]; exact h2⟩
  · exact fun {j u} h1 h2 => ⟨Or.inl (h.t (n := 5) 73 rfl), h1, by rw [h.l (t := 20) 73 rfl]; exact h2⟩
theorem mk_tb13 {S : mj_S} {b : Nat} (h : mk_Sh S) (hb : mB b) : mj_tg S (b + 13) = 20 := by
  rcases hb with q | q <;> subst q
  · exact h.t (n := 96) 34 rfl
  · exact h.t (n := 96) 74 rfl
theorem mk_lb13 {S : mj_S} {b : Nat} (h : mk_Sh S) (hb : mB b) : mj_ln S (b + 13) = 96 := by
  rcases hb with q | q <;> subst q
  · exact h.l (t := 20) 34 rfl
  · exact h.l (t := 20) 74 rfl
theorem mk_ab13 {S : mj_S} {b : Nat} (h : mk_Sh S) (hb : mB b) : ∀ {j : Int} {u : Nat}, 0 ≤ j → j < 96 → mj_ai S (b + 13) j 20 u := by
  rcases hb with q | q <;> subst q
  · exact fun {j u} h1 h2 => ⟨Or.inl (h.t (n := 96) 34 rfl), h1, by rw [h.l (t := 20) 34 rfl]; exact h2⟩
  · exact fun {j u} h1 h2 => ⟨Or.inl (h.t (n := 96) 74 rfl), h1, by rw [h.l (t := 20) 74 rfl]; exact h2⟩
theorem mk_tb14 {S : mj_S} {b : Nat} (h : mk_Sh S) (hb : mB b) : mj_tg S (b + 14) = 20 := by
  rcases hb with q | q <;> subst q
  · exact h.t (n := 6) 35 rfl
  · exact h.t (n := 6) 75 rfl
theorem mk_lb14 {S : mj_S} {b : Nat} (h : mk_Sh S) (hb : mB b) : mj_ln S (b + 14) = 6 := by
  rcases hb with q | q <;> subst q
  · exact h.l (t := 20) 35 rfl
  · exact h.l (t := 20) 75 rfl
theorem mk_ab14 {S : mj_S} {b : Nat} (h : mk_Sh S) (hb : mB b) : ∀ {j : Int} {u : Nat}, 0 ≤ j → j < 6 → mj_ai S (b + 14) j 20 u := by
  rcases hb with q | q <;> subst q
  · exact fun {j u} h1 h2 => ⟨Or.inl (h.t (n := 6) 35 rfl), h1, by rw [h.l (t := 20) 35 rfl]; exact h2⟩
  · exact fun {j u} h1 h2 => ⟨Or.inl (h.t (n := 6) 75 rfl), h1, by rw [h.l (t := 20) 75 rfl]; exact h2⟩
theorem mk_rp {S : mj_S} {b : Nat} (h : mk_Sh S) (hb : mB b) (k : Nat) (hk : k < 7) : mj_rf S (b + 1) k = b + 15 + k := by
  have q : k = 0 ∨ k = 1 ∨ k = 2 ∨ k = 3 ∨ k = 4 ∨ k = 5 ∨ k = 6 := by omega
  rcases hb with hq | hq <;> subst hq <;> rcases q with q | q | q | q | q | q | q <;> subst q
  · exact h.r 22 0 rfl
  · exact h.r 22 1 rfl
  · exact h.r 22 2 rfl
  · exact h.r 22 3 rfl
  · exact h.r 22 4 rfl
  · exact h.r 22 5 rfl
  · exact h.r 22 6 rfl
  · exact h.r 62 0 rfl
  · exact h.r 62 1 rfl
  · exact h.r 62 2 rfl
  · exact h.r 62 3 rfl
  · exact h.r 62 4 rfl
  · exact h.r 62 5 rfl
  · exact h.r 62 6 rfl
theorem mk_rs {S : mj_S} {b : Nat} (h : mk_Sh S) (hb : mB b) (k : Nat) (hk : k < 6) : mj_rf S (b + 2) k = b + 22 + k := by
  have q : k = 0 ∨ k = 1 ∨ k = 2 ∨ k = 3 ∨ k = 4 ∨ k = 5 := by omega
  rcases hb with hq | hq <;> subst hq <;> rcases q with q | q | q | q | q | q <;> subst q
  · exact h.r 23 0 rfl
  · exact h.r 23 1 rfl
  · exact h.r 23 2 rfl
  · exact h.r 23 3 rfl
  · exact h.r 23 4 rfl
  · exact h.r 23 5 rfl
  · exact h.r 63 0 rfl
  · exact h.r 63 1 rfl
  · exact h.r 63 2 rfl
  · exact h.r 63 3 rfl
  · exact h.r 63 4 rfl
  · exact h.r 63 5 rfl
theorem mk_rr {S : mj_S} {b : Nat} (h : mk_Sh S) (hb : mB b) (k : Nat) (hk : k < 12) : mj_rf S (b + 3) k = b + 28 + k := by
  have q : k = 0 ∨ k = 1 ∨ k = 2 ∨ k = 3 ∨ k = 4 ∨ k = 5 ∨ k = 6 ∨ k = 7 ∨ k = 8 ∨ k = 9 ∨ k = 10 ∨ k = 11 := by omega
  rcases hb with hq | hq <;> subst hq <;> rcases q with q | q | q | q | q | q | q | q | q | q | q | q <;> subst q
  · exact h.r 24 0 rfl
  · exact h.r 24 1 rfl
  · exact h.r 24 2 rfl
  · exact h.r 24 3 rfl
  · exact h.r 24 4 rfl
  · exact h.r 24 5 rfl
  · exact h.r 24 6 rfl
  · exact h.r 24 7 rfl
  · exact h.r 24 8 rfl
  · exact h.r 24 9 rfl
  · exact h.r 24 10 rfl
  · exact h.r 24 11 rfl
  · exact h.r 64 0 rfl
  · exact h.r 64 1 rfl
  · exact h.r 64 2 rfl
  · exact h.r 64 3 rfl
  · exact h.r 64 4 rfl
  · exact h.r 64 5 rfl
  · exact h.r 64 6 rfl
  · exact h.r 64 7 rfl
  · exact h.r 64 8 rfl
  · exact h.r 64 9 rfl
  · exact h.r 64 10 rfl
  · exact h.r 64 11 rfl
theorem mk_tp {S : mj_S} {b : Nat} (h : mk_Sh S) (hb : mB b) (k : Nat) (hk : k < 7) : mj_tg S (b + 15 + k) = 3 := by
  have q : k = 0 ∨ k = 1 ∨ k = 2 ∨ k = 3 ∨ k = 4 ∨ k = 5 ∨ k = 6 := by omega
  rcases hb with hq | hq <;> subst hq <;> rcases q with q | q | q | q | q | q | q <;> subst q
  · exact h.t (n := 8) 36 rfl
  · exact h.t (n := 8) 37 rfl
  · exact h.t (n := 8) 38 rfl
  · exact h.t (n := 8) 39 rfl
  · exact h.t (n := 8) 40 rfl
  · exact h.t (n := 8) 41 rfl
  · exact h.t (n := 8) 42 rfl
  · exact h.t (n := 8) 76 rfl
  · exact h.t (n := 8) 77 rfl
  · exact h.t (n := 8) 78 rfl
  · exact h.t (n := 8) 79 rfl
  · exact h.t (n := 8) 80 rfl
  · exact h.t (n := 8) 81 rfl
  · exact h.t (n := 8) 82 rfl
theorem mk_ts {S : mj_S} {b : Nat} (h : mk_Sh S) (hb : mB b) (k : Nat) (hk : k < 6) : mj_tg S (b + 22 + k) = 4 := by
  have q : k = 0 ∨ k = 1 ∨ k = 2 ∨ k = 3 ∨ k = 4 ∨ k = 5 := by omega
  rcases hb with hq | hq <;> subst hq <;> rcases q with q | q | q | q | q | q <;> subst q
  · exact h.t (n := 4) 43 rfl
  · exact h.t (n := 4) 44 rfl
  · exact h.t (n := 4) 45 rfl
  · exact h.t (n := 4) 46 rfl
  · exact h.t (n := 4) 47 rfl
  · exact h.t (n := 4) 48 rfl
  · exact h.t (n := 4) 83 rfl
  · exact h.t (n := 4) 84 rfl
  · exact h.t (n := 4) 85 rfl
  · exact h.t (n := 4) 86 rfl
  · exact h.t (n := 4) 87 rfl
  · exact h.t (n := 4) 88 rfl
theorem mk_tr {S : mj_S} {b : Nat} (h : mk_Sh S) (hb : mB b) (k : Nat) (hk : k < 12) : mj_tg S (b + 28 + k) = 5 := by
  have q : k = 0 ∨ k = 1 ∨ k = 2 ∨ k = 3 ∨ k = 4 ∨ k = 5 ∨ k = 6 ∨ k = 7 ∨ k = 8 ∨ k = 9 ∨ k = 10 ∨ k = 11 := by omega
  rcases hb with hq | hq <;> subst hq <;> rcases q with q | q | q | q | q | q | q | q | q | q | q | q <;> subst q
  · exact h.t (n := 4) 49 rfl
  · exact h.t (n := 4) 50 rfl
  · exact h.t (n := 4) 51 rfl
  · exact h.t (n := 4) 52 rfl
  · exact h.t (n := 4) 53 rfl
  · exact h.t (n := 4) 54 rfl
  · exact h.t (n := 4) 55 rfl
  · exact h.t (n := 4) 56 rfl
  · exact h.t (n := 4) 57 rfl
  · exact h.t (n := 4) 58 rfl
  · exact h.t (n := 4) 59 rfl
  · exact h.t (n := 4) 60 rfl
  · exact h.t (n := 4) 89 rfl
  · exact h.t (n := 4) 90 rfl
  · exact h.t (n := 4) 91 rfl
  · exact h.t (n := 4) 92 rfl
  · exact h.t (n := 4) 93 rfl
  · exact h.t (n := 4) 94 rfl
  · exact h.t (n := 4) 95 rfl
  · exact h.t (n := 4) 96 rfl
  · exact h.t (n := 4) 97 rfl
  · exact h.t (n := 4) 98 rfl
  · exact h.t (n := 4) 99 rfl
  · exact h.t (n := 4) 100 rfl
