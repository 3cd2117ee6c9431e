/-! ONE TURN OF THE LAW'S LOOP, out of what each call does -/
def ch (x : Int32) : Int32 := (x.toUInt32 % 65536).toInt32
