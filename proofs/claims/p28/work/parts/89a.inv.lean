/-! WHAT IS KEPT, in both systems alike -/
theorem St_rf {W : Nat → Nat → Prop} {μ : Mm} (h : Bx μ) : St W μ μ := ⟨h, fw_rf⟩
def cnt (P : Int → Bool) (f : Nat → Int) : Nat → Int
  | 0 => 0
  | n + 1 => cnt P f n + (if P (f n) then 1 else 0)
theorem cnt_congr {P : Int → Bool} {f g : Nat → Int} : ∀ n, (∀ j, j < n → f j = g j) → cnt P f n = cnt P g n := by
  intro n
  induction n with
  | zero => intro _; rfl
  | succ n ih =>
    intro h
    show cnt P f n + _ = cnt P g n + _
    rw [ih (fun j hj => h j (by omega)), h n (by omega)]
def isX (x : Int) : Bool := decide (x ≠ -1)
def is1 (x : Int) : Bool := decide (x = 1)
def Tp (μ : Mm) : Prop := ∃ n : Nat, n ≤ 160 ∧ μ 1 1 = (n : Int) ∧ μ 70 2 = (n : Int) ∧ ∀ j, j < n → μ 2 j = μ 71 j ∧ 1 ≤ μ 71 j ∧ μ 71 j ≤ 255
def Pl (μ : Mm) : Prop := ∃ m : Nat, m ≤ 5 ∧ μ 0 15 = (m : Int) ∧ μ 70 28 = (m : Int) ∧ ∀ p, p < m → ∃ L : List (Int × Int), 1 ≤ L.length ∧ L.length ≤ 8 ∧ hasP μ (18 + 3 * p) 0 L ∧ hasM μ p 0 L
def Lw (μ : Mm) : Prop := ∃ m : Nat, m ≤ 4 ∧ μ 0 16 = (m : Int) ∧ μ 70 13 = (m : Int) ∧ ∀ q, q < m → ∃ (n : Nat) (L : List (Cd × Cd)), n ≤ 160 ∧ μ (37 + 2 * q) 1 = (n : Int) ∧ (∀ j, j < n → 1 ≤ μ (38 + 2 * q) j ∧ μ (38 + 2 * q) j ≤ 255) ∧ lawS (μ (38 + 2 * q)) n = some L ∧ rowsAt μ q 0 0 L
/-- a CELLAR of the class and its places, WINDS, STOOP, NIGHT in the reference -/
def Kc (μ : Mm) (l0 A W s g : Nat) : Prop := (∀ p, p < 60 → (isP μ p → μ (l0 + 1) p = μ A p) ∧ (¬ isP μ p → μ (l0 + 1) p = -1)) ∧ (∀ p, p < 60 → ((isP μ p ∧ μ A p = 2) ↔ μ l0 3 = ((p : Nat) : Int))) ∧ (∀ c, c < 8 → ∀ p, p < 60 → ((isP μ p ∧ μ A p = 3 + ((c : Nat) : Int)) ↔ μ (l0 + 2) c = ((p : Nat) : Int))) ∧ (∀ c, c < 8 → -1 ≤ μ (l0 + 2) c ∧ μ (l0 + 2) c ≤ 59) ∧ (μ l0 4 ≤ 0 ↔ μ 70 23 = 0) ∧ μ l0 5 = cnt isX (μ (l0 + 2)) 8 ∧ μ l0 6 = cnt is1 (μ (l0 + 1)) 60 ∧ μ l0 7 = μ 70 s ∧ μ l0 8 = μ 70 g ∧ (μ 70 23 ≠ 0 → ∀ c, c < 8 → μ (l0 + 3) c = μ W c)
def Im (μ : Mm) : Prop := (μ 9 4 ≤ 0 ↔ μ 70 53 = 0) ∧ (μ 70 53 ≠ 0 → Kc μ 9 96 97 51 52 ∧ μ 9 4 = μ 5 4)
def Th (μ : Mm) : Prop := ∃ n : Nat, n ≤ 10 ∧ μ 67 2 = (n : Int) ∧ μ 70 45 = (n : Int) ∧ ∀ j, j < n → μ 68 j = μ 93 j ∧ μ 69 j = μ 94 j
def Inv (μ : Mm) : Prop := Bx μ ∧ Ir μ ∧ Tp μ ∧ Pl μ ∧ Lw μ ∧ Kc μ 5 82 86 30 31 ∧ μ 0 17 = μ 70 32 ∧ Im μ ∧ Th μ
/-! the cells that each speaks of -/
theorem Tp_congr {μ ν : Mm} (h : Tp μ) (e1 : ν 1 1 = μ 1 1) (e2 : ∀ j, ν 2 j = μ 2 j) (e3 : ν 70 2 = μ 70 2) (e4 : ∀ j, ν 71 j = μ 71 j) : Tp ν := by
  obtain ⟨n, h1, h2, h3, h4⟩ := h
  exact ⟨n, h1, by rw [e1]; exact h2, by rw [e3]; exact h3, fun j hj => by rw [e2, e4]; exact h4 j hj⟩
theorem Pl_congr {μ ν : Mm} (h : Pl μ) (e1 : ν 0 15 = μ 0 15) (e2 : ∀ k j, 18 ≤ k → k ≤ 32 → ν k j = μ k j) (e3 : ν 70 28 = μ 70 28) (e4 : ∀ j, j < 40 → ν 83 j = μ 83 j ∧ ν 84 j = μ 84 j) (e5 : ∀ j, j < 5 → ν 85 j = μ 85 j) : Pl ν := by
  obtain ⟨m, h1, h2, h3, h4⟩ := h
  refine ⟨m, h1, by rw [e1]; exact h2, by rw [e3]; exact h3, fun p hp => ?_⟩
  obtain ⟨L, l1, l2, l3, l4⟩ := h4 p hp
  refine ⟨L, l1, l2, ⟨by rw [e2 _ _ (by omega) (by omega)]; exact l3.1, fun i hi => ?_⟩, ⟨by rw [e5 _ (by omega)]; exact l4.1, fun i hi => ?_⟩⟩
  · rw [e2 _ _ (by omega) (by omega), e2 _ _ (by omega) (by omega)]; exact l3.2 i hi
  · rw [(e4 _ (by omega)).1, (e4 _ (by omega)).2]; exact l4.2 i hi
theorem rows_congr {μ ν : Mm} {q : Nat} (hq : q < 4) (e1 : ∀ j, j < 1360 → ν 72 j = μ 72 j ∧ ν 73 j = μ 73 j) (e2 : ∀ j, j < 4 → ν 75 j = μ 75 j) (e3 : ∀ j, j < 360 → ν 76 j = μ 76 j ∧ ν 77 j = μ 77 j ∧ ν 78 j = μ 78 j) : ∀ (L : List (Cd × Cd)) (g i : Nat), rowsAt μ q g i L → rowsAt ν q g i L := by
  intro L
  induction L with
  | nil => intro g i h; show ν 75 q = _; rw [e2 q hq]; exact h
  | cons x L ih =>
    intro g i h
    obtain ⟨⟨h1, h2, h3, h4, h5, h6, h7, h8, h9, h10⟩, h11⟩ := h
    have r := e3 (90 * q + g) (by omega)
    refine ⟨⟨by rw [r.1]; exact h1, by rw [r.2.1]; exact h2, by rw [r.2.2]; exact h3, fun k hk => ?_, h5, h6, h7, h8, h9, h10⟩, ih _ _ h11⟩
    have hk2 : k < x.1.length + x.2.length := by rw [← List.length_append]; exact hk
    have r1 := e1 (340 * q + i + k) (by omega)
    rw [r1.1, r1.2]
    exact h4 k hk
theorem lawS_congr {t t' : Nat → Int} {n : Nat} (h : ∀ j, t j = t' j) : lawS t n = lawS t' n := by
  have : t = t' := funext h
  rw [this]
theorem Lw_congr {μ ν : Mm} (h : Lw μ) (e0 : ν 0 16 = μ 0 16) (e4 : ν 70 13 = μ 70 13) (e5 : ∀ k j, 37 ≤ k → k ≤ 44 → ν k j = μ k j) (e1 : ∀ j, j < 1360 → ν 72 j = μ 72 j ∧ ν 73 j = μ 73 j) (e2 : ∀ j, j < 4 → ν 75 j = μ 75 j) (e3 : ∀ j, j < 360 → ν 76 j = μ 76 j ∧ ν 77 j = μ 77 j ∧ ν 78 j = μ 78 j) : Lw ν := by
  obtain ⟨m, h1, h2, h3, h4⟩ := h
  refine ⟨m, h1, by rw [e0]; exact h2, by rw [e4]; exact h3, fun q hq => ?_⟩
  obtain ⟨n, L, l1, l2, l3, l4, l5⟩ := h4 q hq
  have eb : ∀ j, ν (38 + 2 * q) j = μ (38 + 2 * q) j := fun j => e5 _ j (by omega) (by omega)
  exact ⟨n, L, l1, by rw [e5 _ _ (by omega) (by omega)]; exact l2, fun j hj => by rw [eb]; exact l3 j hj, by rw [lawS_congr eb]; exact l4, rows_congr (by omega) e1 e2 e3 _ _ _ l5⟩
theorem Kc_congr {μ ν : Mm} {l0 A W s g : Nat} (h : Kc μ l0 A W s g) (e0 : ∀ j, 3 ≤ j → j ≤ 8 → ν l0 j = μ l0 j) (e1 : ∀ j, ν (l0 + 1) j = μ (l0 + 1) j) (e2 : ∀ j, ν (l0 + 2) j = μ (l0 + 2) j) (e3 : ∀ j, ν (l0 + 3) j = μ (l0 + 3) j) (eA : ∀ j, ν A j = μ A j) (eW : ∀ j, ν W j = μ W j) (es : ν 70 s = μ 70 s) (eg : ν 70 g = μ 70 g) (e23 : ν 70 23 = μ 70 23) (e24 : ν 70 24 = μ 70 24) : Kc ν l0 A W s g := by
  obtain ⟨h1, h2, h3, h4, h5, h6, h7, h8, h9, h10⟩ := h
  have i : ∀ p, isP ν p ↔ isP μ p := isP_congr e23 e24
  refine ⟨fun p hp => ?_, fun p hp => ?_, fun c hc p hp => ?_, fun c hc => by rw [e2]; exact h4 c hc, by rw [e0 4 (by decide) (by decide), e23]; exact h5, ?_, ?_, by rw [e0 7 (by decide) (by decide), es]; exact h8, by rw [e0 8 (by decide) (by decide), eg]; exact h9, fun z c hc => by rw [e3, eW]; rw [e23] at z; exact h10 z c hc⟩
  · rw [i p, e1, eA]; exact h1 p hp
  · rw [i p, eA, e0 3 (by decide) (by decide)]; exact h2 p hp
  · rw [i p, eA, e2]; exact h3 c hc p hp
  · rw [e0 5 (by decide) (by decide), h6]; exact (cnt_congr 8 (fun j _ => e2 j)).symm
  · rw [e0 6 (by decide) (by decide), h7]; exact (cnt_congr 60 (fun j _ => e1 j)).symm
theorem Th_congr {μ ν : Mm} (h : Th μ) (e1 : ν 67 2 = μ 67 2) (e2 : ν 70 45 = μ 70 45) (e3 : ∀ j, ν 68 j = μ 68 j ∧ ν 69 j = μ 69 j ∧ ν 93 j = μ 93 j ∧ ν 94 j = μ 94 j) : Th ν := by
  obtain ⟨n, h1, h2, h3, h4⟩ := h
  refine ⟨n, h1, by rw [e1]; exact h2, by rw [e2]; exact h3, fun j hj => ?_⟩
  obtain ⟨k1, k2, k3, k4⟩ := e3 j
  rw [k1, k2, k3, k4]
  exact h4 j hj
theorem Im_congr {μ ν : Mm} (h : Im μ) (e9 : ∀ k j, 9 ≤ k → k ≤ 12 → ν k j = μ k j) (e5 : ν 5 4 = μ 5 4) (eA : ∀ j, ν 96 j = μ 96 j) (eW : ∀ j, ν 97 j = μ 97 j) (es : ν 70 51 = μ 70 51) (eg : ν 70 52 = μ 70 52) (e53 : ν 70 53 = μ 70 53) (e23 : ν 70 23 = μ 70 23) (e24 : ν 70 24 = μ 70 24) : Im ν := by
  refine ⟨by rw [e9 9 4 (by decide) (by decide), e53]; exact h.1, fun h2 => ?_⟩
  rw [e53] at h2
  obtain ⟨k1, k2⟩ := h.2 h2
  exact ⟨Kc_congr k1 (fun j _ _ => e9 9 j (by decide) (by decide)) (fun j => e9 10 j (by decide) (by decide)) (fun j => e9 11 j (by decide) (by decide)) (fun j => e9 12 j (by decide) (by decide)) eA eW es eg e23 e24, by rw [e9 9 4 (by decide) (by decide), e5]; exact k2⟩
/-- the cells that are kept -/
def kep (k j : Nat) : Prop := (k = 0 ∧ 15 ≤ j) ∨ (k = 1 ∧ j = 1) ∨ k = 2 ∨ (5 ≤ k ∧ k ≤ 12) ∨ (18 ≤ k ∧ k ≤ 32) ∨ (37 ≤ k ∧ k ≤ 44) ∨ (k = 67 ∧ j = 2) ∨ k = 68 ∨ k = 69 ∨ (k = 70 ∧ (j = 2 ∨ j = 13 ∨ j = 23 ∨ j = 24 ∨ j = 28 ∨ j = 30 ∨ j = 31 ∨ j = 32 ∨ j = 45 ∨ j = 51 ∨ j = 52 ∨ j = 53)) ∨ k = 71 ∨ ((k = 72 ∨ k = 73) ∧ j < 1360) ∨ (k = 75 ∧ j < 4) ∨ (76 ≤ k ∧ k ≤ 78 ∧ j < 360) ∨ k = 82 ∨ ((k = 83 ∨ k = 84) ∧ j < 40) ∨ (k = 85 ∧ j < 5) ∨ k = 86 ∨ k = 93 ∨ k = 94 ∨ k = 96 ∨ k = 97
theorem Inv_congr {μ ν : Mm} (hI : Inv μ) (hB : Bx ν) (hM : Ir ν) (e : ∀ k j, kep k j → ν k j = μ k j) : Inv ν := by
  obtain ⟨_, _, h3, h4, h5, h6, h7, h8, h9⟩ := hI
  have s : ∀ j, (j = 2 ∨ j = 13 ∨ j = 23 ∨ j = 24 ∨ j = 28 ∨ j = 30 ∨ j = 31 ∨ j = 32 ∨ j = 45 ∨ j = 51 ∨ j = 52 ∨ j = 53) → ν 70 j = μ 70 j := fun j hj => e 70 j (Or.inr (Or.inr (Or.inr (Or.inr (Or.inr (Or.inr (Or.inr (Or.inr (Or.inr (Or.inl (⟨rfl, hj⟩)))))))))))
  have w : ∀ k j, 5 ≤ k → k ≤ 12 → ν k j = μ k j := fun k j h1 h2 => e k j (Or.inr (Or.inr (Or.inr (Or.inl (⟨h1, h2⟩)))))
  refine ⟨hB, hM, Tp_congr h3 (e 1 1 (Or.inr (Or.inl (⟨rfl, rfl⟩)))) (fun j => e 2 j (Or.inr (Or.inr (Or.inl (rfl))))) (s 2 (by decide)) (fun j => e 71 j (Or.inr (Or.inr (Or.inr (Or.inr (Or.inr (Or.inr (Or.inr (Or.inr (Or.inr (Or.inr (Or.inl (rfl))))))))))))), ?_, ?_, ?_, ?_, ?_, ?_⟩
  · exact Pl_congr h4 (e 0 15 (Or.inl (⟨rfl, by decide⟩))) (fun k j h1 h2 => e k j (Or.inr (Or.inr (Or.inr (Or.inr (Or.inl (⟨h1, h2⟩))))))) (s 28 (by decide)) (fun j hj => ⟨e 83 j (Or.inr (Or.inr (Or.inr (Or.inr (Or.inr (Or.inr (Or.inr (Or.inr (Or.inr (Or.inr (Or.inr (Or.inr (Or.inr (Or.inr (Or.inr (Or.inl (⟨Or.inl rfl, hj⟩))))))))))))))))), e 84 j (Or.inr (Or.inr (Or.inr (Or.inr (Or.inr (Or.inr (Or.inr (Or.inr (Or.inr (Or.inr (Or.inr (Or.inr (Or.inr (Or.inr (Or.inr (Or.inl (⟨Or.inr rfl, hj⟩)))))))))))))))))⟩) (fun j hj => e 85 j (Or.inr (Or.inr (Or.inr (Or.inr (Or.inr (Or.inr (Or.inr (Or.inr (Or.inr (Or.inr (Or.inr (Or.inr (Or.inr (Or.inr (Or.inr (Or.inr (Or.inl (⟨rfl, hj⟩)))))))))))))))))))
  · exact Lw_congr h5 (e 0 16 (Or.inl (⟨rfl, by decide⟩))) (s 13 (by decide)) (fun k j h1 h2 => e k j (Or.inr (Or.inr (Or.inr (Or.inr (Or.inr (Or.inl (⟨h1, h2⟩)))))))) (fun j hj => ⟨e 72 j (Or.inr (Or.inr (Or.inr (Or.inr (Or.inr (Or.inr (Or.inr (Or.inr (Or.inr (Or.inr (Or.inr (Or.inl (⟨Or.inl rfl, hj⟩))))))))))))), e 73 j (Or.inr (Or.inr (Or.inr (Or.inr (Or.inr (Or.inr (Or.inr (Or.inr (Or.inr (Or.inr (Or.inr (Or.inl (⟨Or.inr rfl, hj⟩)))))))))))))⟩) (fun j hj => e 75 j (Or.inr (Or.inr (Or.inr (Or.inr (Or.inr (Or.inr (Or.inr (Or.inr (Or.inr (Or.inr (Or.inr (Or.inr (Or.inl (⟨rfl, hj⟩))))))))))))))) (fun j hj => ⟨e 76 j (Or.inr (Or.inr (Or.inr (Or.inr (Or.inr (Or.inr (Or.inr (Or.inr (Or.inr (Or.inr (Or.inr (Or.inr (Or.inr (Or.inl (⟨by decide, by decide, hj⟩))))))))))))))), e 77 j (Or.inr (Or.inr (Or.inr (Or.inr (Or.inr (Or.inr (Or.inr (Or.inr (Or.inr (Or.inr (Or.inr (Or.inr (Or.inr (Or.inl (⟨by decide, by decide, hj⟩))))))))))))))), e 78 j (Or.inr (Or.inr (Or.inr (Or.inr (Or.inr (Or.inr (Or.inr (Or.inr (Or.inr (Or.inr (Or.inr (Or.inr (Or.inr (Or.inl (⟨by decide, by decide, hj⟩)))))))))))))))⟩)
  · exact Kc_congr h6 (fun j _ _ => w 5 j (by decide) (by decide)) (fun j => w 6 j (by decide) (by decide)) (fun j => w 7 j (by decide) (by decide)) (fun j => w 8 j (by decide) (by decide)) (fun j => e 82 j (Or.inr (Or.inr (Or.inr (Or.inr (Or.inr (Or.inr (Or.inr (Or.inr (Or.inr (Or.inr (Or.inr (Or.inr (Or.inr (Or.inr (Or.inl (rfl))))))))))))))))) (fun j => e 86 j (Or.inr (Or.inr (Or.inr (Or.inr (Or.inr (Or.inr (Or.inr (Or.inr (Or.inr (Or.inr (Or.inr (Or.inr (Or.inr (Or.inr (Or.inr (Or.inr (Or.inr (Or.inl (rfl)))))))))))))))))))) (s 30 (by decide)) (s 31 (by decide)) (s 23 (by decide)) (s 24 (by decide))
  · rw [e 0 17 (Or.inl (⟨rfl, by decide⟩)), s 32 (by decide)]; exact h7
  · exact Im_congr h8 (fun k j h1 h2 => w k j (by omega) h2) (w 5 4 (by decide) (by decide)) (fun j => e 96 j (Or.inr (Or.inr (Or.inr (Or.inr (Or.inr (Or.inr (Or.inr (Or.inr (Or.inr (Or.inr (Or.inr (Or.inr (Or.inr (Or.inr (Or.inr (Or.inr (Or.inr (Or.inr (Or.inr (Or.inr (Or.inl (rfl))))))))))))))))))))))) (fun j => e 97 j (Or.inr (Or.inr (Or.inr (Or.inr (Or.inr (Or.inr (Or.inr (Or.inr (Or.inr (Or.inr (Or.inr (Or.inr (Or.inr (Or.inr (Or.inr (Or.inr (Or.inr (Or.inr (Or.inr (Or.inr (Or.inr (rfl))))))))))))))))))))))) (s 51 (by decide)) (s 52 (by decide)) (s 53 (by decide)) (s 23 (by decide)) (s 24 (by decide))
  · exact Th_congr h9 (e 67 2 (Or.inr (Or.inr (Or.inr (Or.inr (Or.inr (Or.inr (Or.inl (⟨rfl, rfl⟩))))))))) (s 45 (by decide)) (fun j => ⟨e 68 j (Or.inr (Or.inr (Or.inr (Or.inr (Or.inr (Or.inr (Or.inr (Or.inl (rfl))))))))), e 69 j (Or.inr (Or.inr (Or.inr (Or.inr (Or.inr (Or.inr (Or.inr (Or.inr (Or.inl (rfl)))))))))), e 93 j (Or.inr (Or.inr (Or.inr (Or.inr (Or.inr (Or.inr (Or.inr (Or.inr (Or.inr (Or.inr (Or.inr (Or.inr (Or.inr (Or.inr (Or.inr (Or.inr (Or.inr (Or.inr (Or.inl (rfl)))))))))))))))))))), e 94 j (Or.inr (Or.inr (Or.inr (Or.inr (Or.inr (Or.inr (Or.inr (Or.inr (Or.inr (Or.inr (Or.inr (Or.inr (Or.inr (Or.inr (Or.inr (Or.inr (Or.inr (Or.inr (Or.inr (Or.inl (rfl)))))))))))))))))))))⟩)
theorem kep_scr {k j : Nat} (h : kep k j) : ¬ scr k j := by unfold kep at h; unfold scr; omega
theorem kep_scrM {k j : Nat} (h : kep k j) : ¬ scrM k j := by unfold kep at h; unfold scrM; omega
theorem Inv_St {μ μ1 : Mm} (hI : Inv μ) (g : St scr μ μ1) : Inv μ1 := by
  have e70 : ∀ k j, 70 ≤ k → μ1 k j = μ k j := fun k j h => g.2 k j (by unfold scr; omega)
  have hB : Bm μ1 := fun k j h => by rw [e70 k j h]; exact hI.2.1.1 k j h
  exact Inv_congr hI g.1 (Ir_congr hI.2.1 hB (fun k j h => e70 k j (by unfold perI at h; omega))) (fun k j h => g.2 k j (kep_scr h))
theorem scrM_lo {k j : Nat} (h : k < 70) : ¬ scrM k j := by unfold scrM; omega
theorem Bx_congr {μ ν : Mm} (h : Bx μ) (e : ∀ k j, k < 70 → ν k j = μ k j) : Bx ν := by
  obtain ⟨h1, h2, h3, h4⟩ := h
  refine ⟨fun k j hk => by rw [e k j hk]; exact h1 k j hk, ?_, ?_, ?_⟩
  · rw [e 3 0 (by decide)]; exact h2
  · rw [e 62 4 (by decide)]; exact h3
  · rw [e 67 3 (by decide)]; exact h4
theorem Inv_Sm {μ μ1 : Mm} (hI : Inv μ) (g : Sm μ μ1) : Inv μ1 :=
  Inv_congr hI (Bx_congr hI.1 (fun k j h => g.2 k j (scrM_lo h))) (Ir_of hI.2.1 g) (fun k j h => g.2 k j (kep_scrM h))
theorem t_X11_out {μs : Mm} {l1 : Int} (hI : Ir μs) (hp_l1 : -2147483648 ≤ l1 ∧ l1 ≤ 2147483647) {μ : Mm} (hS : Sm μs μ) : wp (X11_out l1 μ) (fun r μ' => Sm μs μ' ∧ (-2147483648 ≤ r ∧ r ≤ 2147483647) ∧ True) := by
  have hIμ := Ir_of hI hS
  unfold X11_out
  obtain ⟨r, e1, hc⟩ := isCr (μ := μ) hp_l1
  rw [e1, bd_some]
  rcases hc with ⟨hc, _⟩ | ⟨hc, h1, h2, p, hp, ip, ep⟩
  · rw [if_pos hc, wp_some]
    exact ⟨hS, ⟨by decide, by decide⟩, trivial⟩
  · rw [if_neg (by omega)]
    have e3 : iA 3 l1 = 3 + l1 := iA_id (by omega) (by omega)
    rw [e3, plc_at hIμ.2.2.2.2.2.2.1 hp ip ep (by omega), bd_some]
    refine wp_call (t_X11_spread (l1 := (p : Int)) hI (by omega) hS) (fun v m hh => ?_)
    obtain ⟨hm, _, _⟩ := hh
    have hIm := Ir_of hI hm
    have h23 : m 70 23 ≠ 0 := by
      have e : m 70 23 = μ 70 23 := by rw [eqS hm (by unfold scrM; omega), eqS hS (by unfold scrM; omega)]
      have := ip.1
      rw [e]; omega
    obtain ⟨s, hs, is, es⟩ := hIm.2.2.1 h23
    rw [plc_at hIm.2.2.2.2.2.2.1 hs is es (by decide), bd_some, wp_ldA]
    refine ⟨by show (0 : Int) ≤ (s : Int) ∧ (s : Int) < 60; omega, ?_⟩
    rw [wp_some]
    exact ⟨hm, hm.1 87 _ (by decide), trivial⟩
