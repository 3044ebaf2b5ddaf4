/-- the setup's stairs: at a capacity, without the items of a set -/
def JA (s : Nat → Nat) (cap wo : Nat) : Nat → Int := ja (okS s cap wo) (fun q => sm s 1 q (s 0)) (fun q => sm s 2 q (s 0)) (2 ^ s 0)
def HS (s : Nat → Nat) (cap wo : Nat) : Nat → Int := stair (JA s cap wo)
theorem JA_rng {s : Nat → Nat} (hW : WF s) (cap wo g : Nat) : -1 ≤ JA s cap wo g ∧ JA s cap wo g ≤ 1188 := ja_rng (fun m => sm_bd hW (w := 2) (by omega) m) _ _
theorem HS_stP {s : Nat → Nat} (hW : WF s) (cap wo : Nat) : stP (HS s cap wo) := stair_stP (JA_rng hW cap wo)
