section ENDS
variable {w : GW} {K : GK} {g g' : GM} {S S' : GS} {t : State} {H : Heap}
theorem hrE (ht : t.heap = H) (hH : HR w K g S H) : HR w K g S t.heap := by rw [ht]; exact hH
theorem hrV (ht : t.heap = H) (ho : g' = g) (hH : HR w K g' S H) : HR w K g S t.heap := by rw [ht, ← ho]; exact hH
theorem hrVm (ht : t.heap = H) (ho : S' = S) (hH : HR w K g S' H) : HR w K g S t.heap := by rw [ht, ← ho]; exact hH
theorem hrP {v : Int32} {out : GM × Int32} (ht : t.heap = H) (ho : (g', v) = out) (hH : HR w K g' S H) : HR w K out.1 S t.heap := by rw [ht, ← ho]; exact hH
theorem hrPm {v : Int32} {out : GS × Int32} (ht : t.heap = H) (ho : (S', v) = out) (hH : HR w K g S' H) : HR w K g out.1 t.heap := by rw [ht, ← ho]; exact hH
end ENDS
