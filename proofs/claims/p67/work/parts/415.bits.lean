def bcv (p0 : Int32) : Int32 :=
  let v9 := p0 - (((p0.toUInt32 >>> ((1 : Int32).toUInt32 &&& Int32.toUInt32 31)).toInt32) &&& (1431655765 : Int32))
  let v23 := (v9 &&& (858993459 : Int32)) + (((v9.toUInt32 >>> ((2 : Int32).toUInt32 &&& Int32.toUInt32 31)).toInt32) &&& (858993459 : Int32))
  let v33 := (v23 + ((v23.toUInt32 >>> ((4 : Int32).toUInt32 &&& Int32.toUInt32 31)).toInt32)) &&& (252645135 : Int32)
  let v40 := v33 + ((v33.toUInt32 >>> ((8 : Int32).toUInt32 &&& Int32.toUInt32 31)).toInt32)
  let v47 := v40 + ((v40.toUInt32 >>> ((16 : Int32).toUInt32 &&& Int32.toUInt32 31)).toInt32)
  v47 &&& (63 : Int32)
theorem bc_all64 : ∀ a, a < 64 → ∀ b, b < 64 → bcv (iI ((64 * a + b : Nat) : Int)) = iI (pcn (64 * a + b) 12 : Nat) := by decide +kernel
theorem bc_all (set : Nat) (h : set < 4096) : bcv (iI (set : Nat)) = iI (pcn set 12 : Nat) := by
  have := bc_all64 (set / 64) (by omega) (set % 64) (by omega)
  rw [show 64 * (set / 64) + set % 64 = set by omega] at this
  exact this
