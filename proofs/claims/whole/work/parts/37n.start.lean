/-! ===== pure: the start ===== -/
theorem rel0 (z0 : Nat → Int32) (h : z0 0 = 0 ∧ z0 1 = 5 ∧ z0 2 = 14) : Rel (0 : Int32) (fun _ => 0) (0 : Int32) (5 : Int32) (14 : Int32) (fun _ => 0) (fun _ => 0) (0 : Int32) (0 : Int32) (10 : Int32) (0 : Int32) (fun _ => 0) (2 : Int32) (0 : Int32) (fun _ => 0) (0 : Int32) (fun _ => 0) (fun _ => 0) (0 : Int32) (0 : Int32) (0 : Int32) (0 : Int32) (fun _ => 0) (fun _ => 0) (0 : Int32) (0 : Int32) (0 : Int32) (0 : Int32) (fun _ => 0) 0 0 0 0 z0 (fun _ => 0) (fun _ => 0) (fun _ => 0) (fun _ => 0) (fun _ => 0) (fun _ => 0) := by
  obtain ⟨h0, h1, h2⟩ := h
  have w0 : LW 0 5 14 (fun _ => (0 : Int32)) (fun _ => (0 : Int32)) := ⟨by omega, by omega, by omega, by omega, fun j hj => absurd hj (by omega), fun i j _ hj => absurd hj (by omega), fun j hj => absurd hj (by omega)⟩
  have r0 : RowIs z0 0 5 14 (fun _ => (0 : Int32)) (fun _ => (0 : Int32)) := ⟨h0, h1, h2, fun j hj => absurd hj (by omega)⟩
  have hN : NeedsOk 0 (fun _ => (0 : Int32)) (fun _ => (0 : Int32)) (fun _ => (0 : Int32)) := fun i j a b => by have := Kn_lt (b i (Nat.le_refl _) (by omega)); omega
  refine ⟨⟨0, by omega, rfl, rfl, fun j hj => absurd hj (by omega)⟩, ⟨0, 5, 14, w0, rfl, rfl, rfl, r0⟩, ⟨0, 0, by omega, by omega, rfl, rfl, rfl, rfl, rfl, fun r hr => absurd hr (by omega)⟩, ⟨rfl, fun s hs => Or.inr ⟨rfl, ?_⟩⟩, Or.inr ⟨rfl, ?_, fun k hk => absurd hk (by decide +revert), ?_, ?_, fun k hk => ?_, fun k hk => ?_, fun fw => ?_, fun gu gl => ?_⟩, ⟨0, by omega, rfl, rfl, fun r hr => absurd hr (by omega), fun k hk => ⟨⟨fun q => ?_, ?_⟩, ⟨fun q => ?_, ?_⟩⟩⟩, Or.inr ⟨rfl, fun p hp => ?_⟩⟩
  · rw [bitAt_bt _ (by omega), b_0]; rfl
  · exact strM (by omega) r0
  · intro i j a b; have : j < 0 := b; omega
  · rw [h1]; exact doorM w0 r0 (p := 5) (by omega)
  · have : k < 0 := hk; omega
  · have : k < 0 := hk; omega
  · obtain ⟨mask, A', B', e1, e2, -⟩ := least_ok w0 r0 hN (fun _ => 0) (fun _ => 0)
    have : mask = 0 := by
      have e3 : f_Thinning_chooseLeast (fun _ => 0) (fun _ => 0) (nI 0) (nI 5) (fun _ => 0) (fun _ => 0) = some (0, (fun _ => 0), (fun _ => 0)) := rfl
      rw [e3] at e1
      injection e1 with e1
      injection e1 with e1 _
      exact e1.symm
    subst this
    exact e2 fw
  · obtain ⟨set, PA', e1, c1, c2, c3⟩ := pieces_ok w0 r0 hN 0 (fun _ => 0)
    obtain ⟨g, g', e⟩ := c1 gu gl
    have e3 : f_Thinning_cutPieces 0 (fun _ => 0) (nI 0) (nI 5) (fun _ => 0) (fun _ => 0) = some (0, (fun _ => 0)) := rfl
    rw [e3] at e1
    injection e1 with e1
    injection e1 with e1 _
    refine ⟨set, g, g', e, by rw [c2, ← e1], fun k hk => ?_⟩
    have : k < 0 := hk
    omega
  · have : bt 0 k = true := q
    rw [b_0] at this; cases this
  · rintro ⟨r, hr, _⟩; omega
  · have : bt 0 k = true := q
    rw [b_0] at this; cases this
  · rintro ⟨r, hr, _⟩; omega
  · exact doorM w0 r0 (p := p) (by omega)
