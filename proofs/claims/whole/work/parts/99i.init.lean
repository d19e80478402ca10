/-! A new object's tables. -/
theorem u_init {N : Nat} (hN : 300 ≤ N) : ∃ y1, fPB_init N = some y1 ∧ (∀ x, x < 288 → y1.1 x = nI (FL x)) ∧ (∀ x, x < 32 → y1.2.2.2.1 x = nI (FD x)) ∧ codeT 288 FL y1.2.2.1 ∧ codeT 32 FD y1.2.2.2.2.2.1 ∧ tabC (cnt FL 288) (symT FL 288) y1.2.2.2.2.2.2.1 y1.2.2.2.2.2.2.2.2.1 y1.2.2.2.2.2.2.2.2.2.2.1 ∧ tabC (cnt FD 32) (symT FD 32) y1.2.2.2.2.2.2.2.2.2.2.2.1 y1.2.2.2.2.2.2.2.2.2.2.2.2.2.1 y1.2.2.2.2.2.2.2.2.2.2.2.2.2.2.2.1 ∧ crcT y1.2.2.2.2.2.2.2.2.2.2.2.2.2.2.2.2.2.2 := by
  obtain ⟨g1, a1, a2⟩ := s_fixedLengths hN
  obtain ⟨g2, b1, b2⟩ := s_fixedDist hN
  obtain ⟨n1, c1, d1, d2⟩ := s_number (N := N) (n := 288) (f := g1) (L := FL) hN (by omega) a2 (fun j _ => (FL_r j).2) (fun _ => 0) (fun _ => 0)
  obtain ⟨n2, c2, e1, e2⟩ := s_number (N := N) (n := 32) (f := g2) (L := FD) hN (by omega) b2 (fun j _ => by rw [FD]; omega) (fun _ => 0) (fun _ => 0)
  obtain ⟨y, u1, u2, u3⟩ := s_C_fixed (N := N) hN
  obtain ⟨T, t1, t2⟩ := crc_table N (by omega)
  have E : fPacker_init N = some (g1, n1, c1, g2, n2, c2) := by
    rw [fPacker_init, a1, b1]
    show ((fCode_number N (fun _ => 0) 288 g1 288 (fun _ => 0)).bind (fun y11 => (fCode_number N (fun _ => 0) 32 g2 32 (fun _ => 0)).bind (fun y12 => some (g1, y11.1, y11.2, g2, y12.1, y12.2)))) = _
    rw [d1, Option.bind_some, e1, Option.bind_some]
  have E2 : fPB_init N = some (g1, n1, c1, g2, n2, c2, y.1, y.2.1, y.2.2.1, y.2.2.2.1, y.2.2.2.2.1, y.2.2.2.2.2.1, y.2.2.2.2.2.2.1, y.2.2.2.2.2.2.2.1, y.2.2.2.2.2.2.2.2.1, y.2.2.2.2.2.2.2.2.2.1, y.2.2.2.2.2.2.2.2.2.2.1, y.2.2.2.2.2.2.2.2.2.2.2, T) := by
    rw [fPB_init, E, u1, t1]
    rfl
  exact ⟨_, E2, a2, b2, d2, e2, u2, u3, t2⟩
