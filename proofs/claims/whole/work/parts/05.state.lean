/-! the state in my words: tuples, and the cells over them -/
abbrev WcT : Type := Int32 × Int32 × Int32
abbrev TcT : Type := Int32 × Int32
abbrev WhT : Type := Int32 × Int32 × Int64 × Int64 × Int32 × Int32 × Int32
abbrev AgT : Type := (Nat → Int32) × (Nat → Int64) × (Nat → Int32) × Int32 × Int32
abbrev PnT : Type := (Nat → Int64) × Int32 × Int32
abbrev ChT : Type := (Nat → Int32)
abbrev SnT : Type := Int32 × Int32 × Int32 × Int32 × (Nat → Int64)
abbrev TmT : Type := Int64 × Int32 × Int32 × Int32
abbrev McT : Type := Int32 × Int32 × Int32 × Int32
abbrev MwT : Type := Int64 × Int32 × Int64 × Int64 × Int32 × Int32 × Int32 × Int32
abbrev MpT : Type := (Nat → Int32)
abbrev MeT : Type := (Nat → Int32) × (Nat → Int64) × (Nat → Int32) × Int32
abbrev MoT : Type := (Nat → Int32) × (Nat → Int32) × (Nat → Int64) × Int32 × Int32 × Int32 × Int32
abbrev MsT : Type := (Nat → Int32) × (Nat → Int32) × (Nat → Int32) × (Nat → Int32) × (Nat → Int32) × (Nat → Int32) × (Nat → Int64)
abbrev cZa (cZ : ClassId) (a n : Nat) (f : Nat → Int32) : Nat × va_E := (a, .inl (cZ, n, .inl f))
abbrev cIa (cI : ClassId) (a n : Nat) (f : Nat → Int32) : Nat × va_E := (a, .inl (cI, n, .inl f))
abbrev cJa (cJ : ClassId) (a n : Nat) (f : Nat → Int64) : Nat × va_E := (a, .inl (cJ, n, .inr (.inl f)))
abbrev cWh (h : Nat) (wc : WcT) (wh : WhT) : Nat × va_E := (h, .inr (4, [.int wc.1, .int wc.2.1, .int wc.2.2, .int wh.1, .int wh.2.1, .long wh.2.2.1, .long wh.2.2.2.1, .int wh.2.2.2.2.1, .int wh.2.2.2.2.2.1, .int wh.2.2.2.2.2.2]))
abbrev cAg (h aT aM aR k : Nat) (ag : AgT) : Nat × va_E := (h, .inr (0, [.int (nI k), .ref aT, .ref aM, .ref aR, .int ag.2.2.2.1, .int ag.2.2.2.2]))
abbrev cPn (h aL : Nat) (pn : PnT) : Nat × va_E := (h, .inr (2, [.ref aL, .int pn.2.1, .int pn.2.2]))
abbrev cCh (h aP : Nat) (mx : Int32) : Nat × va_E := (h, .inr (1, [.int mx, .ref aP]))
abbrev cSn (h tc aC : Nat) (sb : Int32) (sn : SnT) : Nat × va_E := (h, .inr (3, [.ref tc, .int sb, .ref aC, .int sn.1, .int sn.2.1, .int sn.2.2.1, .int sn.2.2.2.1]))
abbrev cTm (ad : Nat → Nat) (k : Nat) (tc : TcT) (tm : TmT) : Nat × va_E := (ad 0, .inr (5, [.int (nI k), .int tc.1, .int tc.2, .ref (ad 1), .ref (ad 2), .ref (ad 6), .ref (ad 8), .ref (ad 10), .ref (ad 12), .ref (ad 14), .long tm.1, .int tm.2.1, .int tm.2.2.1, .int tm.2.2.2]))
abbrev cMd (bd : Nat → Nat) (k : Nat) (mc : McT) (mw : MwT) (me : MeT) (mo : MoT) : Nat × va_E := (bd 0, .inr (6, [.int mc.1, .int (nI k), .int mc.2.1, .int mc.2.2.1, .int mc.2.2.2, .long mw.1, .int mw.2.1, .long mw.2.2.1, .long mw.2.2.2.1, .int mw.2.2.2.2.1, .int mw.2.2.2.2.2.1, .int mw.2.2.2.2.2.2.1, .int mw.2.2.2.2.2.2.2, .ref (bd 1), .ref (bd 2), .ref (bd 3), .ref (bd 4), .int me.2.2.2, .ref (bd 5), .ref (bd 6), .ref (bd 7), .ref (bd 8), .ref (bd 9), .ref (bd 10), .ref (bd 11), .ref (bd 12), .ref (bd 13), .ref (bd 14), .int mo.2.2.2.1, .int mo.2.2.2.2.1, .int mo.2.2.2.2.2.1, .int mo.2.2.2.2.2.2]))
theorem k_pos {x : Int64} (h : 0 < x) : ¬ x = 0 := fun z => by subst z; exact absurd h (by decide)
