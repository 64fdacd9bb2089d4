/-! turnover -/
def bcf (x : Nat) : Nat :=
  let v1 := x - ((x / 2) &&& 1431655765)
  let v2 := (v1 &&& 858993459) + ((v1 / 4) &&& 858993459)
  let v3 := (v2 + v2 / 16) &&& 252645135
  let v4 := v3 + v3 / 256
  (v4 + v4 / 65536) &&& 63
theorem bcf_split : ∀ b, b < 256 → ∀ a, a < 256 → bcf (b * 256 + a) = bcf a + bcf b := by decide +kernel
theorem bcf_byte : ∀ a, a < 256 → bcf a = pc a 8 := by decide +kernel
