/-! ===== mm: the law's calls, each on both sides ===== -/
theorem reach_eq {u p x y : Int} {g : mmH} (n : g u 1 ≤ 31) (h1 : (0 ≤ p ∧ p < g u 3) ∧ isCl (g u 1) (eP u g p) (g 88 p) x ∨ (¬ (0 ≤ p ∧ p < g u 3) ∧ x = -1)) (h2 : (0 ≤ p ∧ p < g u 3) ∧ isCl (g u 1) (eP u g p) (g 88 p) y ∨ (¬ (0 ≤ p ∧ p < g u 3) ∧ y = -1)) : x = y := by
  rcases h1 with ⟨a1, a2⟩ | ⟨a1, a2⟩ <;> rcases h2 with ⟨b1, b2⟩ | ⟨b1, b2⟩
  · exact isCl_uniq n a2 b2
  · exact absurd a1 b1
  · exact absurd b1 a1
  · rw [a2, b2]
section LCs
variable {h : mmH}
theorem tfuA : tFu 5 = tFA := by unfold tFu; exact if_pos rfl
theorem tfuB : tFu 46 = tFB := by unfold tFu; exact if_neg (by decide)
theorem lA_fault {a : Int} (hC : Cp 5 h h) : LC 68 193 [a] h := LC_of (by decide +kernel) (by decide +kernel) hC (by rw [tfuA]; exact qC_le (d := 1) (by decide) (aA_fault (d := 0) (fun h0 C0 => qC_le (d := 1) (by decide) (b_fault (d := 0) C0 ⟨rfl, C0.y⟩))))
theorem lA_has {a : Int} (hC : Cp 5 h h) : LC 69 194 [a] h := LC_of (by decide +kernel) (by decide +kernel) hC (by rw [tfuA]; exact qC_le (d := 2) (by decide) (aA_has (d := 0) hC (fun x e1 h0 C0 => qC_le (d := 3) (by decide) (b_has (d := 0) C0 (fun y e2 => ⟨e1.trans e2.symm, C0.y⟩)))))
theorem lA_letter {a b k : Int} (hC : Cp 5 h h) : LC 74 202 [a, b, k] h := LC_of (by decide +kernel) (by decide +kernel) hC (by rw [tfuA]; exact qC_le (d := 3) (by decide) (aA_letter (d := 0) hC (fun x e1 h0 C0 => qC_le (d := 3) (by decide) (b_letter (d := 0) C0 (fun y e2 => ⟨e1.trans e2.symm, C0.y⟩)))))
theorem lA_lot {a b : Int} (hC : Cp 5 h h) : LC 77 203 [a, b] h := LC_of (by decide +kernel) (by decide +kernel) hC (by rw [tfuA]; exact qC_le (d := 3) (by decide) (aA_lot (d := 0) hC (fun x e1 h0 C0 => qC_le (d := 3) (by decide) (b_lot (d := 0) C0 (fun y e2 => ⟨e1.trans e2.symm, C0.y⟩)))))
theorem lA_gap {a b : Int} (hC : Cp 5 h h) : LC 80 211 [a, b] h := LC_of (by decide +kernel) (by decide +kernel) hC (by rw [tfuA]; exact qC_le (d := 3) (by decide) (aA_gap (d := 0) hC (fun x e1 h0 C0 => qC_le (d := 3) (by decide) (b_gap (d := 0) C0 (fun y e2 => ⟨e1.trans e2.symm, C0.y⟩)))))
theorem lA_person {a b : Int} (hC : Cp 5 h h) : LC 81 212 [a, b] h := LC_of (by decide +kernel) (by decide +kernel) hC (by rw [tfuA]; exact qC_le (d := 2) (by decide) (aA_person (d := 0) hC (fun x e1 h0 C0 => qC_le (d := 3) (by decide) (b_person (d := 0) C0 (fun y e2 => ⟨e1.trans e2.symm, C0.y⟩)))))
theorem lA_purse {a : Int} (hC : Cp 5 h h) : LC 83 217 [a] h := LC_of (by decide +kernel) (by decide +kernel) hC (by rw [tfuA]; exact qC_le (d := 2) (by decide) (aA_purse (d := 0) hC (fun x e1 h0 C0 => qC_le (d := 2) (by decide) (b_purse (d := 0) C0 (fun y e2 => ⟨e1.trans e2.symm, C0.y⟩)))))
theorem lA_led {a b : Int} (hC : Cp 5 h h) : LC 127 247 [a, b] h := LC_of (by decide +kernel) (by decide +kernel) hC (by rw [tfuA]; exact qC_le (d := 1) (by decide) (aA_led (d := 0) hC (fun x e1 h0 C0 => qC_le (d := 2) (by decide) (b_led (d := 0) C0 (fun y e2 => ⟨e1.trans e2.symm, C0.y⟩)))))
theorem lA_octet {a : Int} (hC : Cp 5 h h) : LC 142 260 [a] h := LC_of (by decide +kernel) (by decide +kernel) hC (by rw [tfuA]; exact qC_le (d := 1) (by decide) (aA_octet (d := 0) hC (fun x e1 h0 C0 => qC_le (d := 1) (by decide) (b_octet (d := 0) C0 (fun y e2 => ⟨e1.trans e2.symm, C0.y⟩)))))
theorem lA_burns {a b : Int} (hC : Cp 5 h h) : LC 122 244 [a, b] h := LC_of (by decide +kernel) (by decide +kernel) hC (by rw [tfuA]; exact qC_le (d := 2) (by decide) (aA_burns (d := 0) hC (fun x e1 h0 C0 => qC_le (d := 4) (by decide) (b_burns (d := 0) C0 (fun y e2 => ⟨e1.trans e2.symm, C0.y⟩)))))
theorem lA_toll {a b : Int} (hC : Cp 5 h h) : LC 84 218 [a, b] h := LC_of (by decide +kernel) (by decide +kernel) hC (by rw [tfuA]; exact qC_le (d := 5) (by decide) (aA_toll (d := 0) hC (fun x h1 F1 e1 h0 C0 => qC_le (d := 5) (by decide) (b_toll (d := 0) C0 (fun y h2 F2 e2 => ⟨e1.trans e2.symm, Cy_Sw3 C0.1 F1 F2 C0.y⟩)))))
theorem lA_step {a b k : Int} (hC : Cp 5 h h) : LC 93 225 [a, b, k] h := LC_of (by decide +kernel) (by decide +kernel) hC (by rw [tfuA]; exact qC_le (d := 6) (by decide) (aA_step (d := 0) hC (fun x h1 F1 e1 h0 C0 => qC_le (d := 5) (by decide) (b_step (d := 0) C0 (fun y h2 F2 e2 => ⟨e1.trans e2.symm, Cy_Sw3 C0.1 F1 F2 C0.y⟩)))))
theorem lA_way {a b : Int} (hC : Cp 5 h h) : LC 96 227 [a, b] h := LC_of (by decide +kernel) (by decide +kernel) hC (by rw [tfuA]; exact qC_le (d := 7) (by decide) (aA_way (d := 0) hC (fun x h1 F1 e1 h0 C0 => qC_le (d := 7) (by decide) (b_way (d := 0) C0 (fun y h2 F2 e2 => ⟨e1.trans e2.symm, Cy_Sw3 C0.1 F1 F2 C0.y⟩)))))
theorem lA_leave {a b : Int} (hC : Cp 5 h h) : LC 102 232 [a, b] h := LC_of (by decide +kernel) (by decide +kernel) hC (by rw [tfuA]; exact qC_le (d := 6) (by decide) (aA_leave (d := 0) hC (fun x h1 F1 e1 h0 C0 => qC_le (d := 6) (by decide) (b_leave (d := 0) C0 (fun y h2 F2 e2 => ⟨e1.trans e2.symm, Cy_Sw3 C0.1 F1 F2 C0.y⟩)))))
theorem lA_stopped {a b : Int} (hC : Cp 5 h h) : LC 128 248 [a, b] h := LC_of (by decide +kernel) (by decide +kernel) hC (by rw [tfuA]; exact qC_le (d := 6) (by decide) (aA_stopped (d := 0) hC (fun x h1 F1 e1 h0 C0 => qC_le (d := 6) (by decide) (b_stopped (d := 0) C0 (fun y h2 F2 e2 => ⟨e1.trans e2.symm, Cy_Sw3 C0.1 F1 F2 C0.y⟩)))))
theorem lA_opened {a b : Int} (hC : Cp 5 h h) : LC 130 250 [a, b] h := LC_of (by decide +kernel) (by decide +kernel) hC (by rw [tfuA]; exact qC_le (d := 6) (by decide) (aA_opened (d := 0) hC (fun x h1 F1 e1 h0 C0 => qC_le (d := 6) (by decide) (b_opened (d := 0) C0 (fun y h2 F2 e2 => ⟨e1.trans e2.symm, Cy_Sw3 C0.1 F1 F2 C0.y⟩)))))
theorem lA_broke {a b k : Int} (hC : Cp 5 h h) : LC 132 251 [a, b, k] h := LC_of (by decide +kernel) (by decide +kernel) hC (by rw [tfuA]; exact qC_le (d := 7) (by decide) (aA_broke (d := 0) hC (fun x h1 F1 e1 h0 C0 => qC_le (d := 8) (by decide) (b_broke (d := 0) C0 (fun y h2 F2 e2 => ⟨e1.trans e2.symm, Cy_Sw3 C0.1 F1 F2 C0.y⟩)))))
theorem lA_worth {a b : Int} (hC : Cp 5 h h) : LC 136 253 [a, b] h := LC_of (by decide +kernel) (by decide +kernel) hC (by rw [tfuA]; exact qC_le (d := 6) (by decide) (aA_worth (d := 0) hC (fun x h1 F1 e1 h0 C0 => qC_le (d := 7) (by decide) (b_worth (d := 0) C0 (fun y h2 F2 e2 => ⟨e1.trans e2.symm, Cy_Sw3 C0.1 F1 F2 C0.y⟩)))))
theorem lA_reach {a : Int} (hC : Cp 5 h h) : LC 138 255 [a] h := LC_of (by decide +kernel) (by decide +kernel) hC (by rw [tfuA]; exact qC_le (d := 6) (by decide) (aA_reach (d := 0) hC (fun x h1 F1 e1 h0 C0 => qC_le (d := 6) (by decide) (b_reach (d := 0) C0 (fun y h2 F2 e2 => ⟨reach_eq (by have := C0.2.2.1.1.2.1.2.1; omega) e1 e2, Cy_Sw3 C0.1 F1 F2 C0.y⟩)))))
theorem lA_leaks (hC : Cp 5 h h) : LC 118 256 [] h := LC_of (by decide +kernel) (by decide +kernel) hC (by rw [tfuA]; exact qC_le (d := 1) (by decide) (pA_leaks (d := 0) hC.2.2.1.1.2.1.2.1.1 hC.2.2.1.1.2.1.2.1.2 (fun h0 C0 => qC_le (d := 2) (by decide) (b_leaks (d := 0) C0 ⟨rfl, C0.y⟩))))
theorem lA_end {a : Int} (hC : Cp 5 h h) : LC 11 149 [a] h := LC_of (by decide +kernel) (by decide +kernel) hC (by rw [tfuA]; exact qC_le (d := 1) (by decide) (aA_end (d := 0) (fun x g' hp h0 C0 => qC_le (d := 1) (by decide) (b_end (d := 0) C0.1 C0.y hp (fun h2 _ C2 => ⟨rfl, C2⟩)))))
theorem lA_snow {a : Int} (hC : Cp 5 h h) : LC 120 243 [a] h := LC_of (by decide +kernel) (by decide +kernel) hC (by rw [tfuA]; exact qC_le (d := 3) (by decide) (aA_snow (d := 0) hC.y (fun x g' hp h0 C0 => qC_le (d := 2) (by decide) (b_snow (d := 0) C0.1 C0.y hp (fun h2 _ C2 => ⟨rfl, C2⟩)))))
theorem lA_patch {a b : Int} (hC : Cp 5 h h) : LC 119 242 [a, b] h := LC_of (by decide +kernel) (by decide +kernel) hC (by rw [tfuA]; exact qC_le (d := 3) (by decide) (aA_patch (d := 0) hC.y (fun x g' hp h0 C0 => qC_le (d := 3) (by decide) (b_patch (d := 0) C0.1 C0.y hp (fun h2 _ C2 => ⟨rfl, C2⟩)))))
theorem lA_undo (hC : Cp 5 h h) : LC 125 233 [] h := LC_of (by decide +kernel) (by decide +kernel) hC (by rw [tfuA]; exact qC_le (d := 2) (by decide) (aA_undo (d := 0) hC.y (fun x g' hp h0 C0 => qC_le (d := 1) (by decide) (b_undo (d := 0) C0.1 C0.y hp (fun h2 _ C2 => ⟨rfl, C2⟩)))))
theorem lA_fire {a b : Int} (hC : Cp 5 h h) : LC 121 246 [a, b] h := LC_of (by decide +kernel) (by decide +kernel) hC (by rw [tfuA]; exact qC_le (d := 3) (by decide) (aA_fire (d := 0) hC (fun x g' hp h0 C0 => qC_le (d := 5) (by decide) (b_fire (d := 0) C0 hp (fun h2 _ C2 => ⟨rfl, C2⟩)))))
theorem lA_go {a : Int} (hC : Cp 5 h h) : LC 107 234 [a] h := LC_of (by decide +kernel) (by decide +kernel) hC (by rw [tfuA]; exact qC_le (d := 7) (by decide) (aA_go (d := 0) hC.y (fun x g' hp h0 C0 => qC_le (d := 8) (by decide) (b_go (d := 0) C0.1 C0.y hp (fun h2 _ C2 => ⟨rfl, C2⟩)))))
theorem lA_night (hC : Cp 5 h h) : LC 115 240 [] h := LC_of (by decide +kernel) (by decide +kernel) hC (by rw [tfuA]; exact qC_le (d := 7) (by decide) (aA_night (d := 0) hC.y (fun x g' hp h0 C0 => qC_le (d := 8) (by decide) (b_night (d := 0) C0.1 C0.y hp (fun h2 _ C2 => ⟨rfl, C2⟩)))))
theorem lA_feed {a b c e f : Int} (hC : Cp 5 h h) : LC 9 148 [a, b, c, e, f] h := LC_of (by decide +kernel) (by decide +kernel) hC (by rw [tfuA]; exact qC_le (d := 2) (by decide) (aA_feed (d := 0) hC.2.2.2.2.2.1.1.2.1 hC.2.2.2.2.2.1.1.2.2 (fun x g' hp h0 C0 => qC_le (d := 1) (by decide) (b_feed (d := 0) C0.1 C0.y hp (fun h2 _ C2 => ⟨rfl, C2⟩)))))
theorem lA_image (hC : Cp 5 h h) : LC 139 257 [] h := LC_of (by decide +kernel) (by decide +kernel) hC (by rw [tfuA]; exact qC_le (d := 2) (by decide) (aA_image (d := 0) hC.y (fun h0 C0 => qC_le (d := 2) (by decide) (b_image (d := 0) C0.1 C0.y (fun h2 _ C2 => ⟨rfl, C2⟩)))))
theorem lA_on (hC : Cp 5 h h) : LC 143 261 [] h := LC_of (by decide +kernel) (by decide +kernel) hC (by rw [tfuA]; exact qC_le (d := 3) (by decide) (aA_on (d := 0) hC.y (fun x g' hp h0 C0 => qC_le (d := 4) (by decide) (b_on (d := 0) C0.1 C0.y hp (fun h2 _ C2 => ⟨rfl, C2⟩)))))
theorem lA_seed {a : Int} (ia : InI a) (hC : Cp 5 h h) : LC 126 239 [a] h := LC_of (by decide +kernel) (by decide +kernel) hC (by rw [tfuA]; exact qC_le (d := 1) (by decide) (aA_seed (d := 0) (fun x g' hp h0 C0 => qC_le (d := 1) (by decide) (b_seed (d := 0) C0.1 C0.y ia hp (fun h2 _ C2 => ⟨rfl, C2⟩)))))
theorem lA_town (hC : Cp 5 h h) : LC 12 150 [] h := LC_to (by decide +kernel) (by decide +kernel) hC (qC_le (d := 70) (by decide) (aA_town (d := 0) (by rw [← tfuA]; exact hC.2.1.1) hC.y (fun x g' u' hp hI => ⟨u', by obtain ⟨_, _, q | q⟩ := hp; exact Or.inl q.2.2.2; exact Or.inr q.2.2.2, hI, fun h0 C0 => qC_le (d := 12) (by decide) (b_town (d := 0) C0.1 (by decide) C0.y hp (fun h2 _ C2 => ⟨rfl, C2⟩))⟩)))
theorem lB_fault {a : Int} (hC : Cp 46 h h) : LC 68 193 [a] h := LC_of (by decide +kernel) (by decide +kernel) hC (by rw [tfuB]; exact qC_le (d := 1) (by decide) (aB_fault (d := 0) (fun h0 C0 => qC_le (d := 1) (by decide) (b_fault (d := 0) C0 ⟨rfl, C0.y⟩))))
theorem lB_has {a : Int} (hC : Cp 46 h h) : LC 69 194 [a] h := LC_of (by decide +kernel) (by decide +kernel) hC (by rw [tfuB]; exact qC_le (d := 2) (by decide) (aB_has (d := 0) hC (fun x e1 h0 C0 => qC_le (d := 3) (by decide) (b_has (d := 0) C0 (fun y e2 => ⟨e1.trans e2.symm, C0.y⟩)))))
theorem lB_letter {a b k : Int} (hC : Cp 46 h h) : LC 74 202 [a, b, k] h := LC_of (by decide +kernel) (by decide +kernel) hC (by rw [tfuB]; exact qC_le (d := 3) (by decide) (aB_letter (d := 0) hC (fun x e1 h0 C0 => qC_le (d := 3) (by decide) (b_letter (d := 0) C0 (fun y e2 => ⟨e1.trans e2.symm, C0.y⟩)))))
theorem lB_lot {a b : Int} (hC : Cp 46 h h) : LC 77 203 [a, b] h := LC_of (by decide +kernel) (by decide +kernel) hC (by rw [tfuB]; exact qC_le (d := 3) (by decide) (aB_lot (d := 0) hC (fun x e1 h0 C0 => qC_le (d := 3) (by decide) (b_lot (d := 0) C0 (fun y e2 => ⟨e1.trans e2.symm, C0.y⟩)))))
theorem lB_gap {a b : Int} (hC : Cp 46 h h) : LC 80 211 [a, b] h := LC_of (by decide +kernel) (by decide +kernel) hC (by rw [tfuB]; exact qC_le (d := 3) (by decide) (aB_gap (d := 0) hC (fun x e1 h0 C0 => qC_le (d := 3) (by decide) (b_gap (d := 0) C0 (fun y e2 => ⟨e1.trans e2.symm, C0.y⟩)))))
theorem lB_person {a b : Int} (hC : Cp 46 h h) : LC 81 212 [a, b] h := LC_of (by decide +kernel) (by decide +kernel) hC (by rw [tfuB]; exact qC_le (d := 2) (by decide) (aB_person (d := 0) hC (fun x e1 h0 C0 => qC_le (d := 3) (by decide) (b_person (d := 0) C0 (fun y e2 => ⟨e1.trans e2.symm, C0.y⟩)))))
theorem lB_purse {a : Int} (hC : Cp 46 h h) : LC 83 217 [a] h := LC_of (by decide +kernel) (by decide +kernel) hC (by rw [tfuB]; exact qC_le (d := 2) (by decide) (aB_purse (d := 0) hC (fun x e1 h0 C0 => qC_le (d := 2) (by decide) (b_purse (d := 0) C0 (fun y e2 => ⟨e1.trans e2.symm, C0.y⟩)))))
theorem lB_led {a b : Int} (hC : Cp 46 h h) : LC 127 247 [a, b] h := LC_of (by decide +kernel) (by decide +kernel) hC (by rw [tfuB]; exact qC_le (d := 1) (by decide) (aB_led (d := 0) hC (fun x e1 h0 C0 => qC_le (d := 2) (by decide) (b_led (d := 0) C0 (fun y e2 => ⟨e1.trans e2.symm, C0.y⟩)))))
theorem lB_octet {a : Int} (hC : Cp 46 h h) : LC 142 260 [a] h := LC_of (by decide +kernel) (by decide +kernel) hC (by rw [tfuB]; exact qC_le (d := 1) (by decide) (aB_octet (d := 0) hC (fun x e1 h0 C0 => qC_le (d := 1) (by decide) (b_octet (d := 0) C0 (fun y e2 => ⟨e1.trans e2.symm, C0.y⟩)))))
theorem lB_burns {a b : Int} (hC : Cp 46 h h) : LC 122 244 [a, b] h := LC_of (by decide +kernel) (by decide +kernel) hC (by rw [tfuB]; exact qC_le (d := 2) (by decide) (aB_burns (d := 0) hC (fun x e1 h0 C0 => qC_le (d := 4) (by decide) (b_burns (d := 0) C0 (fun y e2 => ⟨e1.trans e2.symm, C0.y⟩)))))
theorem lB_toll {a b : Int} (hC : Cp 46 h h) : LC 84 218 [a, b] h := LC_of (by decide +kernel) (by decide +kernel) hC (by rw [tfuB]; exact qC_le (d := 5) (by decide) (aB_toll (d := 0) hC (fun x h1 F1 e1 h0 C0 => qC_le (d := 5) (by decide) (b_toll (d := 0) C0 (fun y h2 F2 e2 => ⟨e1.trans e2.symm, Cy_Sw3 C0.1 F1 F2 C0.y⟩)))))
theorem lB_step {a b k : Int} (hC : Cp 46 h h) : LC 93 225 [a, b, k] h := LC_of (by decide +kernel) (by decide +kernel) hC (by rw [tfuB]; exact qC_le (d := 6) (by decide) (aB_step (d := 0) hC (fun x h1 F1 e1 h0 C0 => qC_le (d := 5) (by decide) (b_step (d := 0) C0 (fun y h2 F2 e2 => ⟨e1.trans e2.symm, Cy_Sw3 C0.1 F1 F2 C0.y⟩)))))
theorem lB_way {a b : Int} (hC : Cp 46 h h) : LC 96 227 [a, b] h := LC_of (by decide +kernel) (by decide +kernel) hC (by rw [tfuB]; exact qC_le (d := 7) (by decide) (aB_way (d := 0) hC (fun x h1 F1 e1 h0 C0 => qC_le (d := 7) (by decide) (b_way (d := 0) C0 (fun y h2 F2 e2 => ⟨e1.trans e2.symm, Cy_Sw3 C0.1 F1 F2 C0.y⟩)))))
theorem lB_leave {a b : Int} (hC : Cp 46 h h) : LC 102 232 [a, b] h := LC_of (by decide +kernel) (by decide +kernel) hC (by rw [tfuB]; exact qC_le (d := 6) (by decide) (aB_leave (d := 0) hC (fun x h1 F1 e1 h0 C0 => qC_le (d := 6) (by decide) (b_leave (d := 0) C0 (fun y h2 F2 e2 => ⟨e1.trans e2.symm, Cy_Sw3 C0.1 F1 F2 C0.y⟩)))))
theorem lB_stopped {a b : Int} (hC : Cp 46 h h) : LC 128 248 [a, b] h := LC_of (by decide +kernel) (by decide +kernel) hC (by rw [tfuB]; exact qC_le (d := 6) (by decide) (aB_stopped (d := 0) hC (fun x h1 F1 e1 h0 C0 => qC_le (d := 6) (by decide) (b_stopped (d := 0) C0 (fun y h2 F2 e2 => ⟨e1.trans e2.symm, Cy_Sw3 C0.1 F1 F2 C0.y⟩)))))
theorem lB_opened {a b : Int} (hC : Cp 46 h h) : LC 130 250 [a, b] h := LC_of (by decide +kernel) (by decide +kernel) hC (by rw [tfuB]; exact qC_le (d := 6) (by decide) (aB_opened (d := 0) hC (fun x h1 F1 e1 h0 C0 => qC_le (d := 6) (by decide) (b_opened (d := 0) C0 (fun y h2 F2 e2 => ⟨e1.trans e2.symm, Cy_Sw3 C0.1 F1 F2 C0.y⟩)))))
theorem lB_broke {a b k : Int} (hC : Cp 46 h h) : LC 132 251 [a, b, k] h := LC_of (by decide +kernel) (by decide +kernel) hC (by rw [tfuB]; exact qC_le (d := 7) (by decide) (aB_broke (d := 0) hC (fun x h1 F1 e1 h0 C0 => qC_le (d := 8) (by decide) (b_broke (d := 0) C0 (fun y h2 F2 e2 => ⟨e1.trans e2.symm, Cy_Sw3 C0.1 F1 F2 C0.y⟩)))))
theorem lB_worth {a b : Int} (hC : Cp 46 h h) : LC 136 253 [a, b] h := LC_of (by decide +kernel) (by decide +kernel) hC (by rw [tfuB]; exact qC_le (d := 6) (by decide) (aB_worth (d := 0) hC (fun x h1 F1 e1 h0 C0 => qC_le (d := 7) (by decide) (b_worth (d := 0) C0 (fun y h2 F2 e2 => ⟨e1.trans e2.symm, Cy_Sw3 C0.1 F1 F2 C0.y⟩)))))
theorem lB_reach {a : Int} (hC : Cp 46 h h) : LC 138 255 [a] h := LC_of (by decide +kernel) (by decide +kernel) hC (by rw [tfuB]; exact qC_le (d := 6) (by decide) (aB_reach (d := 0) hC (fun x h1 F1 e1 h0 C0 => qC_le (d := 6) (by decide) (b_reach (d := 0) C0 (fun y h2 F2 e2 => ⟨reach_eq (by have := C0.2.2.1.1.2.1.2.1; omega) e1 e2, Cy_Sw3 C0.1 F1 F2 C0.y⟩)))))
theorem lB_leaks (hC : Cp 46 h h) : LC 118 256 [] h := LC_of (by decide +kernel) (by decide +kernel) hC (by rw [tfuB]; exact qC_le (d := 1) (by decide) (pB_leaks (d := 0) hC.2.2.1.1.2.1.2.1.1 hC.2.2.1.1.2.1.2.1.2 (fun h0 C0 => qC_le (d := 2) (by decide) (b_leaks (d := 0) C0 ⟨rfl, C0.y⟩))))
theorem lB_end {a : Int} (hC : Cp 46 h h) : LC 11 149 [a] h := LC_of (by decide +kernel) (by decide +kernel) hC (by rw [tfuB]; exact qC_le (d := 1) (by decide) (aB_end (d := 0) (fun x g' hp h0 C0 => qC_le (d := 1) (by decide) (b_end (d := 0) C0.1 C0.y hp (fun h2 _ C2 => ⟨rfl, C2⟩)))))
theorem lB_snow {a : Int} (hC : Cp 46 h h) : LC 120 243 [a] h := LC_of (by decide +kernel) (by decide +kernel) hC (by rw [tfuB]; exact qC_le (d := 3) (by decide) (aB_snow (d := 0) hC.y (fun x g' hp h0 C0 => qC_le (d := 2) (by decide) (b_snow (d := 0) C0.1 C0.y hp (fun h2 _ C2 => ⟨rfl, C2⟩)))))
theorem lB_patch {a b : Int} (hC : Cp 46 h h) : LC 119 242 [a, b] h := LC_of (by decide +kernel) (by decide +kernel) hC (by rw [tfuB]; exact qC_le (d := 3) (by decide) (aB_patch (d := 0) hC.y (fun x g' hp h0 C0 => qC_le (d := 3) (by decide) (b_patch (d := 0) C0.1 C0.y hp (fun h2 _ C2 => ⟨rfl, C2⟩)))))
theorem lB_undo (hC : Cp 46 h h) : LC 125 233 [] h := LC_of (by decide +kernel) (by decide +kernel) hC (by rw [tfuB]; exact qC_le (d := 2) (by decide) (aB_undo (d := 0) hC.y (fun x g' hp h0 C0 => qC_le (d := 1) (by decide) (b_undo (d := 0) C0.1 C0.y hp (fun h2 _ C2 => ⟨rfl, C2⟩)))))
theorem lB_fire {a b : Int} (hC : Cp 46 h h) : LC 121 246 [a, b] h := LC_of (by decide +kernel) (by decide +kernel) hC (by rw [tfuB]; exact qC_le (d := 3) (by decide) (aB_fire (d := 0) hC (fun x g' hp h0 C0 => qC_le (d := 5) (by decide) (b_fire (d := 0) C0 hp (fun h2 _ C2 => ⟨rfl, C2⟩)))))
theorem lB_go {a : Int} (hC : Cp 46 h h) : LC 107 234 [a] h := LC_of (by decide +kernel) (by decide +kernel) hC (by rw [tfuB]; exact qC_le (d := 7) (by decide) (aB_go (d := 0) hC.y (fun x g' hp h0 C0 => qC_le (d := 8) (by decide) (b_go (d := 0) C0.1 C0.y hp (fun h2 _ C2 => ⟨rfl, C2⟩)))))
theorem lB_night (hC : Cp 46 h h) : LC 115 240 [] h := LC_of (by decide +kernel) (by decide +kernel) hC (by rw [tfuB]; exact qC_le (d := 7) (by decide) (aB_night (d := 0) hC.y (fun x g' hp h0 C0 => qC_le (d := 8) (by decide) (b_night (d := 0) C0.1 C0.y hp (fun h2 _ C2 => ⟨rfl, C2⟩)))))
theorem lB_feed {a b c e f : Int} (hC : Cp 46 h h) : LC 9 148 [a, b, c, e, f] h := LC_of (by decide +kernel) (by decide +kernel) hC (by rw [tfuB]; exact qC_le (d := 2) (by decide) (aB_feed (d := 0) hC.2.2.2.2.2.1.1.2.1 hC.2.2.2.2.2.1.1.2.2 (fun x g' hp h0 C0 => qC_le (d := 1) (by decide) (b_feed (d := 0) C0.1 C0.y hp (fun h2 _ C2 => ⟨rfl, C2⟩)))))
theorem lB_image (hC : Cp 46 h h) : LC 139 257 [] h := LC_of (by decide +kernel) (by decide +kernel) hC (by rw [tfuB]; exact qC_le (d := 2) (by decide) (aB_image (d := 0) hC.y (fun h0 C0 => qC_le (d := 2) (by decide) (b_image (d := 0) C0.1 C0.y (fun h2 _ C2 => ⟨rfl, C2⟩)))))
theorem lB_on (hC : Cp 46 h h) : LC 143 261 [] h := LC_of (by decide +kernel) (by decide +kernel) hC (by rw [tfuB]; exact qC_le (d := 3) (by decide) (aB_on (d := 0) hC.y (fun x g' hp h0 C0 => qC_le (d := 4) (by decide) (b_on (d := 0) C0.1 C0.y hp (fun h2 _ C2 => ⟨rfl, C2⟩)))))
theorem lB_seed {a : Int} (ia : InI a) (hC : Cp 46 h h) : LC 126 239 [a] h := LC_of (by decide +kernel) (by decide +kernel) hC (by rw [tfuB]; exact qC_le (d := 1) (by decide) (aB_seed (d := 0) (fun x g' hp h0 C0 => qC_le (d := 1) (by decide) (b_seed (d := 0) C0.1 C0.y ia hp (fun h2 _ C2 => ⟨rfl, C2⟩)))))
theorem lB_town (hC : Cp 46 h h) : LC 12 150 [] h := LC_to (by decide +kernel) (by decide +kernel) hC (qC_le (d := 70) (by decide) (aB_town (d := 0) (by rw [← tfuB]; exact hC.2.1.1) hC.y (fun x g' u' hp hI => ⟨u', by obtain ⟨_, _, q | q⟩ := hp; exact Or.inr q.2.2.2; exact Or.inl q.2.2.2, hI, fun h0 C0 => qC_le (d := 12) (by decide) (b_town (d := 0) C0.1 (by decide) C0.y hp (fun h2 _ C2 => ⟨rfl, C2⟩))⟩)))
theorem l_fault {a : Int} (hC : Cq h) : LC 68 193 [a] h := by
  obtain ⟨u, C⟩ := hC
  rcases C.1 with e | e <;> subst e
  · exact lA_fault C
  · exact lB_fault C
theorem l_has {a : Int} (hC : Cq h) : LC 69 194 [a] h := by
  obtain ⟨u, C⟩ := hC
  rcases C.1 with e | e <;> subst e
  · exact lA_has C
  · exact lB_has C
theorem l_letter {a b k : Int} (hC : Cq h) : LC 74 202 [a, b, k] h := by
  obtain ⟨u, C⟩ := hC
  rcases C.1 with e | e <;> subst e
  · exact lA_letter C
  · exact lB_letter C
theorem l_lot {a b : Int} (hC : Cq h) : LC 77 203 [a, b] h := by
  obtain ⟨u, C⟩ := hC
  rcases C.1 with e | e <;> subst e
  · exact lA_lot C
  · exact lB_lot C
theorem l_gap {a b : Int} (hC : Cq h) : LC 80 211 [a, b] h := by
  obtain ⟨u, C⟩ := hC
  rcases C.1 with e | e <;> subst e
  · exact lA_gap C
  · exact lB_gap C
theorem l_person {a b : Int} (hC : Cq h) : LC 81 212 [a, b] h := by
  obtain ⟨u, C⟩ := hC
  rcases C.1 with e | e <;> subst e
  · exact lA_person C
  · exact lB_person C
theorem l_purse {a : Int} (hC : Cq h) : LC 83 217 [a] h := by
  obtain ⟨u, C⟩ := hC
  rcases C.1 with e | e <;> subst e
  · exact lA_purse C
  · exact lB_purse C
theorem l_led {a b : Int} (hC : Cq h) : LC 127 247 [a, b] h := by
  obtain ⟨u, C⟩ := hC
  rcases C.1 with e | e <;> subst e
  · exact lA_led C
  · exact lB_led C
theorem l_octet {a : Int} (hC : Cq h) : LC 142 260 [a] h := by
  obtain ⟨u, C⟩ := hC
  rcases C.1 with e | e <;> subst e
  · exact lA_octet C
  · exact lB_octet C
theorem l_burns {a b : Int} (hC : Cq h) : LC 122 244 [a, b] h := by
  obtain ⟨u, C⟩ := hC
  rcases C.1 with e | e <;> subst e
  · exact lA_burns C
  · exact lB_burns C
theorem l_toll {a b : Int} (hC : Cq h) : LC 84 218 [a, b] h := by
  obtain ⟨u, C⟩ := hC
  rcases C.1 with e | e <;> subst e
  · exact lA_toll C
  · exact lB_toll C
theorem l_step {a b k : Int} (hC : Cq h) : LC 93 225 [a, b, k] h := by
  obtain ⟨u, C⟩ := hC
  rcases C.1 with e | e <;> subst e
  · exact lA_step C
  · exact lB_step C
theorem l_way {a b : Int} (hC : Cq h) : LC 96 227 [a, b] h := by
  obtain ⟨u, C⟩ := hC
  rcases C.1 with e | e <;> subst e
  · exact lA_way C
  · exact lB_way C
theorem l_leave {a b : Int} (hC : Cq h) : LC 102 232 [a, b] h := by
  obtain ⟨u, C⟩ := hC
  rcases C.1 with e | e <;> subst e
  · exact lA_leave C
  · exact lB_leave C
theorem l_stopped {a b : Int} (hC : Cq h) : LC 128 248 [a, b] h := by
  obtain ⟨u, C⟩ := hC
  rcases C.1 with e | e <;> subst e
  · exact lA_stopped C
  · exact lB_stopped C
theorem l_opened {a b : Int} (hC : Cq h) : LC 130 250 [a, b] h := by
  obtain ⟨u, C⟩ := hC
  rcases C.1 with e | e <;> subst e
  · exact lA_opened C
  · exact lB_opened C
theorem l_broke {a b k : Int} (hC : Cq h) : LC 132 251 [a, b, k] h := by
  obtain ⟨u, C⟩ := hC
  rcases C.1 with e | e <;> subst e
  · exact lA_broke C
  · exact lB_broke C
theorem l_worth {a b : Int} (hC : Cq h) : LC 136 253 [a, b] h := by
  obtain ⟨u, C⟩ := hC
  rcases C.1 with e | e <;> subst e
  · exact lA_worth C
  · exact lB_worth C
theorem l_reach {a : Int} (hC : Cq h) : LC 138 255 [a] h := by
  obtain ⟨u, C⟩ := hC
  rcases C.1 with e | e <;> subst e
  · exact lA_reach C
  · exact lB_reach C
theorem l_leaks (hC : Cq h) : LC 118 256 [] h := by
  obtain ⟨u, C⟩ := hC
  rcases C.1 with e | e <;> subst e
  · exact lA_leaks C
  · exact lB_leaks C
theorem l_end {a : Int} (hC : Cq h) : LC 11 149 [a] h := by
  obtain ⟨u, C⟩ := hC
  rcases C.1 with e | e <;> subst e
  · exact lA_end C
  · exact lB_end C
theorem l_snow {a : Int} (hC : Cq h) : LC 120 243 [a] h := by
  obtain ⟨u, C⟩ := hC
  rcases C.1 with e | e <;> subst e
  · exact lA_snow C
  · exact lB_snow C
theorem l_patch {a b : Int} (hC : Cq h) : LC 119 242 [a, b] h := by
  obtain ⟨u, C⟩ := hC
  rcases C.1 with e | e <;> subst e
  · exact lA_patch C
  · exact lB_patch C
theorem l_undo (hC : Cq h) : LC 125 233 [] h := by
  obtain ⟨u, C⟩ := hC
  rcases C.1 with e | e <;> subst e
  · exact lA_undo C
  · exact lB_undo C
theorem l_fire {a b : Int} (hC : Cq h) : LC 121 246 [a, b] h := by
  obtain ⟨u, C⟩ := hC
  rcases C.1 with e | e <;> subst e
  · exact lA_fire C
  · exact lB_fire C
theorem l_go {a : Int} (hC : Cq h) : LC 107 234 [a] h := by
  obtain ⟨u, C⟩ := hC
  rcases C.1 with e | e <;> subst e
  · exact lA_go C
  · exact lB_go C
theorem l_night (hC : Cq h) : LC 115 240 [] h := by
  obtain ⟨u, C⟩ := hC
  rcases C.1 with e | e <;> subst e
  · exact lA_night C
  · exact lB_night C
theorem l_feed {a b c e f : Int} (hC : Cq h) : LC 9 148 [a, b, c, e, f] h := by
  obtain ⟨u, C⟩ := hC
  rcases C.1 with e | e <;> subst e
  · exact lA_feed C
  · exact lB_feed C
theorem l_image (hC : Cq h) : LC 139 257 [] h := by
  obtain ⟨u, C⟩ := hC
  rcases C.1 with e | e <;> subst e
  · exact lA_image C
  · exact lB_image C
theorem l_on (hC : Cq h) : LC 143 261 [] h := by
  obtain ⟨u, C⟩ := hC
  rcases C.1 with e | e <;> subst e
  · exact lA_on C
  · exact lB_on C
theorem l_seed {a : Int} (ia : InI a) (hC : Cq h) : LC 126 239 [a] h := by
  obtain ⟨u, C⟩ := hC
  rcases C.1 with e | e <;> subst e
  · exact lA_seed ia C
  · exact lB_seed ia C
theorem l_town (hC : Cq h) : LC 12 150 [] h := by
  obtain ⟨u, C⟩ := hC
  rcases C.1 with e | e <;> subst e
  · exact lA_town C
  · exact lB_town C
end LCs
