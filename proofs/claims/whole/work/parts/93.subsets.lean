/-! sneeze: the reference's side. -/
/-- what the choice who makes of voters v.. -/
def Wn (τ : Td) (c k who : Nat) : Nat → Hd → Nat → Nat → Nat
  | 0, σ, _, x => if σ.2.2.2.1 = nI k then x else 0
  | d + 1, σ, v, x => if who.testBit v then Wn τ c k who d (vot τ σ v) (v + 1) (x * (10 - c)) else Wn τ c k who d σ (v + 1) (x * c)
theorem has_b {who v : Nat} (hw : who < 64) (hv : v < 6) (μ : Mem) : fX12_has (nI who) (nI v) μ = some (if who.testBit v then 1 else 0) := by
  have hd : ∀ w, w < 64 → ∀ v, v < 6 → (if ((nI w >>> (nI v &&& 31)) &&& 1) = 1 then some (1 : Int32) else some 0) = some (if w.testBit v then 1 else 0) := by decide +kernel
  have := hd who hw v hv
  unfold fX12_has
  exact this
