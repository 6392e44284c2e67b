/-! numbers that come to lanes, by both -/
theorem f_come {d u : Nat} {h : MH} {l : Int32} {v : Int64} {Q : Int64 → MH → Prop} (hl : wi l 0 7 = true) (hq : Q (cm l v) h) : F_X4_come d l v h u Q := z_come hl hq
theorem f_widen {d u : Nat} {h : MH} {a b : Int32} {v : Int64} {Q : Int64 → MH → Prop} (ha : wi a 0 7 = true) (hb : wi b 0 7 = true) (hw : isW a b = true) (hv : numOK a v) (hq : Q (wd a b v) h) : F_X4_widen d a b v h u Q := z_widen hb hv hq
theorem g_comes {d u : Nat} {h : MH} {l : Int32} {v : Int64} {Q : Int64 → MH → Prop} (hl : wi l 0 7 = true) (hq : Q (cm l v) h) : F_X12_comes d l v h u Q := z_comes hq
theorem g_widened {d u : Nat} {h : MH} {a b : Int32} {v : Int64} {Q : Int64 → MH → Prop} (ha : wi a 0 7 = true) (hb : wi b 0 7 = true) (hw : isW a b = true) (hv : numOK a v) (hq : Q (wd a b v) h) : F_X12_widened d a b v h u Q := z_widened hv hq
theorem cm_ok {l : Int32} {v : Int64} (hl : wi l 0 7 = true) : numOK l (cm l v) := z_cm_ok
theorem wd_ok {a b : Int32} {v : Int64} (ha : wi a 0 7 = true) (hb : wi b 0 7 = true) (hw : isW a b = true) (hv : numOK a v) : numOK b (wd a b v) := z_wd_ok hw hv
