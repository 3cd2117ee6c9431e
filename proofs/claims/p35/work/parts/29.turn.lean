/-! ONE TURN OF THE LAW'S LOOP, out of what each call does -/
theorem xe0_me : xe0 = me 0 Ik_0 Rk_0 := by
  have : (fun _ => (0, 0) : Nat → Nat × Nat) = ct 0 := by
    funext x
    unfold ct
    rw [if_neg (by omega)]
  show (0, (fun _ => (0, 0)), Ik_0, zJ, Rk_0) = _
  rw [this]
def ch (x : Int32) : Int32 := (x.toUInt32 % 65536).toInt32
