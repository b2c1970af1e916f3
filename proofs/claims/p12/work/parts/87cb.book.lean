/-! BOOK, FIT, and what is altered for a while -/
theorem book_L {μ : Mm} (hm : 0 ≤ μ 70 37 ∧ μ 70 37 ≤ 8) : ∀ (n : Nat) (v c : Int), 0 ≤ c ∧ c ≤ μ 70 37 → OV v (μ 70 37) c → μ 70 37 - c + 1 ≤ ((n : Nat) : Int) → wp (X11_book_L4 n v c μ) (fun r m => m = μ ∧ OV r (μ 70 37) (μ 70 37)) := by
  intro n
  induction n with
  | zero => intro v c hc hv h; exact absurd h (by have : ((0 : Nat) : Int) = 0 := rfl; omega)
  | succ n ih =>
    intro v c hc hv hn
    have hn1 : ((n + 1 : Nat) : Int) = ((n : Nat) : Int) + 1 := rfl
    show wp (if μ 70 37 ≤ c then _ else _) _
    refine wp_if (fun g => ?_) (fun g => ?_)
    · have e : c = μ 70 37 := by omega
      rw [e] at hv
      exact ⟨rfl, hv⟩
    · refine wp_ltv (fun x hx => ?_)
      have h9 := OV_le hv (by omega)
      have h0 := hv.1
      rw [iM_id (by omega) (by omega), iA_id (by omega) (by omega)] at hx
      rw [iA_id (by omega) (by omega), hx]
      exact ih _ _ (by omega) (OV_s hc.1 hv (by omega) hm.2) (by omega)
theorem t_X11_book {μs μ : Mm} (hS : Sm μs μ) : wp (X11_book μ) (fun r m => m = μ ∧ (-2147483648 ≤ r ∧ r ≤ 2147483647) ∧ OD r (μ 70 37)) := by
  have hb := gO_11_37 hS
  unfold X11_book
  refine wp_mono (book_L hb FU 0 0 (by omega) (OV_0 _) (by rw [FU_v]; omega)) (fun r m h => ?_)
  have h1 := OV_le h.2 hb.2
  have h0 := h.2.1
  exact ⟨h.1, by omega, OV_D hb h.2⟩
