theorem iI_z {z : Nat} (hz : z < 4096) : (iI (z : Nat) = (0 : Int32)) ↔ z = 0 := by
  rw [iI_lit 0]
  exact iI_inj4 hz (by omega)
theorem sm_bd {s : Nat → Nat} (hW : WF s) {w : Nat} (hw : w < 3) (set : Nat) : sm s w set (s 0) ≤ 1188 := by
  have h := hW.1
  have : sm s w set (s 0) ≤ s 0 * 99 := sm_le fun k hk => by
    have := hW.2.2.2.2.2.2 k hk
    rcases (show w = 0 ∨ w = 1 ∨ w = 2 by omega) with rfl | rfl | rfl
    · exact this.1
    · exact this.2.1
    · exact this.2.2.1
  omega
theorem rf_le (s : Nat → Nat) (cap set : Nat) : rf s cap set ≤ 6 := by
  unfold rf rfb
  repeat' split
  all_goals omega
