/-! all calls -/
theorem rel0 : Rel 0 σX11 σX12 := by
  refine ⟨⟨?_, ?_, ?_, ?_, ?_, ?_, ?_, ?_, ?_, ?_, ?_, ?_, ?_, ?_, ?_, ?_, ?_, ?_, ?_, ?_, ?_, ?_, ?_, ?_⟩, Or.inl ⟨rfl, rfl⟩, ⟨0, by decide, rfl, rfl, fun j hj => absurd hj (Nat.not_lt_zero j)⟩, fun j hj => ⟨0, Nat.zero_le _, rfl, rfl⟩, ?_, fun j hj => ⟨0, Nat.zero_le _, rfl, rfl⟩, fun j _ => rfl, fun j _ => rfl, fun j _ => rfl⟩
  · exact fun j hj => ⟨0, Nat.zero_le _, rfl, rfl⟩
  · exact fun j hj => ⟨0, Nat.zero_le _, rfl, rfl⟩
  · exact fun j hj => ⟨0, Nat.zero_le _, rfl, rfl⟩
  · intro j hj
    exact by
      rcases (show j = 0 ∨ j = 1 ∨ j = 2 ∨ j = 3 ∨ j = 4 ∨ j = 5 ∨ j = 6 ∨ j = 7 ∨ j = 8 ∨ j = 9 by omega) with rfl | rfl | rfl | rfl | rfl | rfl | rfl | rfl | rfl | rfl
      · exact ⟨8, by decide, rfl, rfl⟩
      · exact ⟨3, by decide, rfl, rfl⟩
      · exact ⟨2, by decide, rfl, rfl⟩
      · exact ⟨1, by decide, rfl, rfl⟩
      · exact ⟨2, by decide, rfl, rfl⟩
      · exact ⟨4, by decide, rfl, rfl⟩
      · exact ⟨1, by decide, rfl, rfl⟩
      · exact ⟨4, by decide, rfl, rfl⟩
      · exact ⟨0, by decide, rfl, rfl⟩
      · exact ⟨240, by decide, rfl, rfl⟩
  · intro j hj
    exact by
      rcases (show j = 0 ∨ j = 1 ∨ j = 2 ∨ j = 3 ∨ j = 4 ∨ j = 5 ∨ j = 6 ∨ j = 7 by omega) with rfl | rfl | rfl | rfl | rfl | rfl | rfl | rfl
      · exact ⟨1, by decide, rfl, rfl⟩
      · exact ⟨0, by decide, rfl, rfl⟩
      · exact ⟨3, by decide, rfl, rfl⟩
      · exact ⟨0, by decide, rfl, rfl⟩
      · exact ⟨0, by decide, rfl, rfl⟩
      · exact ⟨9, by decide, rfl, rfl⟩
      · exact ⟨2, by decide, rfl, rfl⟩
      · exact ⟨2, by decide, rfl, rfl⟩
  · exact fun j hj => ⟨0, Nat.zero_le _, rfl, rfl⟩
  · exact fun j hj => ⟨0, Nat.zero_le _, rfl, rfl⟩
  · exact fun j hj => ⟨0, Nat.zero_le _, rfl, rfl⟩
  · exact fun j hj => ⟨0, Nat.zero_le _, rfl, rfl⟩
  · exact fun j hj => ⟨0, Nat.zero_le _, rfl, rfl⟩
  · exact fun j hj => ⟨0, Nat.zero_le _, rfl, rfl⟩
  · exact fun j hj => ⟨0, Nat.zero_le _, rfl, rfl⟩
  · exact fun j hj => ⟨0, Nat.zero_le _, rfl, rfl⟩
  · exact fun j hj => ⟨0, Nat.zero_le _, rfl, rfl⟩
  · exact fun j hj => ⟨0, Nat.zero_le _, rfl, rfl⟩
  · exact fun j hj => ⟨0, Nat.zero_le _, rfl, rfl⟩
  · exact fun j hj => ⟨0, Nat.zero_le _, rfl, rfl⟩
  · exact ⟨0, Nat.zero_le _, rfl, rfl⟩
  · exact ⟨0, Nat.zero_le _, rfl, rfl⟩
  · exact ⟨0, Nat.zero_le _, rfl, rfl⟩
  · exact ⟨0, Nat.zero_le _, rfl, rfl⟩
  · exact ⟨0, Nat.zero_le _, rfl, rfl⟩
  · exact Or.inl ⟨rfl, rfl⟩
  · refine ⟨fun _ => 0, fun k hk => ⟨?_, rfl⟩, by rw [sumN_0]; exact Nat.zero_le _⟩
    show (if k % 5 = 4 then (0 : Int64) else 0) = lN 0
    split <;> rfl
  · intro j hj
    rcases (show j = 0 ∨ j = 1 ∨ j = 2 ∨ j = 3 by omega) with rfl | rfl | rfl | rfl
    · exact ⟨Or.inl rfl, rfl⟩
    · exact ⟨Or.inl rfl, rfl⟩
    · exact ⟨Or.inl rfl, rfl⟩
    · exact ⟨Or.inl rfl, rfl⟩
theorem pure_ok : PureOK 3000 Rel ∧ ∀ (n : Nat) (c m : St), n < 64 → Rel n c m → Rel (n + 1) c m := by
  refine ⟨⟨rel0, fun n c m hn0 R => ?_⟩, fun n c m _ R => R.mono⟩
  have hn : n ≤ 64 := Nat.le_of_lt hn0
  exact ⟨fun v0 v1 => (p_kind R 3000 v0 v1).same,
    fun v0 v1 => (p_draw R 3000 (Nat.le_refl _) v0 v1).same,
    fun v0 v1 => (p_told R 3000 (Nat.le_refl _) v0 v1).same,
    fun v0 v1 => (p_set R 3000 (Nat.le_refl _) v0 v1).same,
    fun v0 v1 => (p_sits R 3000 (Nat.le_refl _) v0 v1).same,
    fun v0 v1 => (p_type R 3000 (Nat.le_refl _) v0 v1).same,
    (p_land R 3000 (Nat.le_refl _)).same,
    (p_rules R 3000 (Nat.le_refl _)).same,
    fun v0 v1 => (p_start R 3000 (Nat.le_refl _) v0 v1).same,
    fun v0 => (p_night R 3000 (Nat.le_refl _) v0).same,
    fun v0 v1 => (p_parts R 3000 (Nat.le_refl _) v0 v1).same,
    fun v0 v1 => (p_odds R 3000 (Nat.le_refl _) v0 v1).same,
    fun v0 => (p_where R 3000 (Nat.le_refl _) v0).same,
    fun v0 => (p_count R hn 3000 (Nat.le_refl _) v0).same,
    fun v0 v1 v2 => (p_sees R 3000 (Nat.le_refl _) v0 v1 v2).same,
    fun v0 v1 => p_search R hn 3000 (Nat.le_refl _) v0 v1,
    fun v0 => (p_alive R 3000 (Nat.le_refl _) v0).same,
    fun v0 v1 v2 => (p_team R 3000 (Nat.le_refl _) v0 v1 v2).same,
    fun v0 => (p_place R 3000 (Nat.le_refl _) v0).same,
    fun v0 => (p_whom R 3000 (Nat.le_refl _) v0).same,
    (p_bound R 3000 (Nat.le_refl _)).same,
    fun v0 v1 => (p_again R hn 3000 (Nat.le_refl _) v0 v1).same,
    fun v0 v1 v2 => (p_call R 3000 (Nat.le_refl _) v0 v1 v2).same,
    fun v0 v1 v2 v3 => (p_truly R 3000 (Nat.le_refl _) v0 v1 v2 v3).same,
    fun v0 v1 v2 => (p_job R 3000 (Nat.le_refl _) v0 v1 v2).same,
    fun v0 => (p_order R 3000 (Nat.le_refl _) v0).same,
    fun v0 v1 v2 => (p_found R 3000 (Nat.le_refl _) v0 v1 v2).same,
    fun v0 v1 => (p_share R 3000 (Nat.le_refl _) v0 v1).same,
    fun v0 v1 => (p_span R 3000 (Nat.le_refl _) v0 v1).same,
    (p_held R 3000 (Nat.le_refl _)).same,
    fun v0 v1 => (p_measure R 3000 (Nat.le_refl _) v0 v1).same,
    fun v0 v1 => (p_leaves R 3000 (Nat.le_refl _) v0 v1).same,
    fun v0 v1 => (p_least R 3000 (Nat.le_refl _) v0 v1).same,
    fun v0 v1 => (p_net R 3000 (Nat.le_refl _) v0 v1).same,
    (p_clear R 3000 (Nat.le_refl _)).same,
    (p_image R 3000 (Nat.le_refl _)).same,
    (p_restore R 3000 (Nat.le_refl _)).same,
    fun v0 => (p_status R 3000 (Nat.le_refl _) v0).same,
    fun v0 v1 v2 v3 => (p_finds R 3000 (Nat.le_refl _) v0 v1 v2 v3).same,
    fun v0 v1 v2 v3 => (p_film R 3000 (Nat.le_refl _) v0 v1 v2 v3).same,
    fun v0 v1 v2 => (p_sheet R 3000 (Nat.le_refl _) v0 v1 v2).same,
    fun v0 => (p_drop R 3000 (Nat.le_refl _) v0).same,
    fun v0 v1 v2 v3 => (p_item R 3000 (Nat.le_refl _) v0 v1 v2 v3).same,
    fun v0 v1 v2 v3 v4 => (p_copy R 3000 (Nat.le_refl _) v0 v1 v2 v3 v4).same⟩
