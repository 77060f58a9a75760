/-! ===== the law's listing is its code's ===== -/
def zokl (l : List (Nat × zO)) : Bool := l.all (fun q => zgd 119 q.1 q.2 && (if q.2.1 = 50 ∨ q.2.1 = 51 then zgc 119 q.1 q.2 else true) && (if q.2.1 = 36 then zgt 119 q.1 q.2 else true))
theorem zok119_0 : zokl ((zo119.drop 0).take 70) = true := by decide +kernel
theorem zok119_1 : zokl ((zo119.drop 70).take 70) = true := by decide +kernel
theorem zok119_2 : zokl ((zo119.drop 140).take 70) = true := by decide +kernel
theorem zok119_3 : zokl ((zo119.drop 210).take 70) = true := by decide +kernel
theorem zok119_4 : zokl ((zo119.drop 280).take 70) = true := by decide +kernel
theorem zok119_5 : zokl ((zo119.drop 350).take 70) = true := by decide +kernel
theorem zok119_6 : zokl ((zo119.drop 420).take 70) = true := by decide +kernel
theorem zok119_7 : zokl ((zo119.drop 490).take 70) = true := by decide +kernel
