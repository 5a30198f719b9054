/-! Integer.bitCount below 2 ^ 14, by table -/
def lTv {α β : Type} (e : α) (k : α → β) : β := k e
def jbc (x0 : Int32) : Int32 :=
  lTv (x0 - ((iUr x0 1) &&& 1431655765)) fun x1 =>
  lTv ((x1 &&& 858993459) + ((iUr x1 2) &&& 858993459)) fun x2 =>
  lTv ((x2 + (iUr x2 4)) &&& 252645135) fun x3 =>
  lTv (x3 + (iUr x3 8)) fun x4 =>
  lTv (x4 + (iUr x4 16)) fun x5 => x5 &&& 63
theorem jbc_eq (w : HW) (x : Int32) : fJ6_bitCount_0f7a4 w x = some (jbc x) := rfl
theorem jbc_tab : ∀ h, h < 128 → ∀ l, l < 128 → jbc (nI (128 * h + l)) = nI (cB (128 * h + l) 14) := by decide +kernel
