/-! THE FRESH MEMORY: what the constructors make, by address -/
def zn (J : Nat → Nat → Int64) : Nat := ((List.range 10).filter (fun j => J (4562 + j) 0 == 0)).length
def KK : Nat → Nat × Nat := fun x => (if x < 1806 then (if x < 565 then (if x < 46 then (if x < 10 then (if x < 5 then (if x < 2 then (if x < 1 then (11, 0) else (0, 0)) else (if x < 3 then (10, 0) else (if x < 4 then (14, 100) else (10, 0)))) else (if x < 7 then (if x < 6 then (14, 100) else (10, 0)) else (if x < 8 then (14, 100) else (if x < 9 then (10, 0) else (14, 100))))) else (if x < 15 then (if x < 12 then (if x < 11 then (13, 60) else (1, 0)) else (if x < 13 then (14, 128) else (if x < 14 then (14, 48) else (14, 48)))) else (if x < 18 then (if x < 16 then (14, 48) else (if x < 17 then (17, 30) else (16, 26))) else (if x < 19 then (15, 26) else (if x < 20 then (18, 26) else (14, 10)))))) else (if x < 543 then (if x < 70 then (if x < 48 then (if x < 47 then (14, 20) else (14, 20)) else (if x < 49 then (18, 20) else (if x < 69 then (14, 10) else (16, 20)))) else (if x < 540 then (if x < 310 then (if (x - 70) % 8 = 0 then (9, 0) else (14, 80)) else (if (x - 310) % 5 = 0 then (2, 0) else (if (x - 310) % 5 = 1 then (10, 0) else (if (x - 310) % 5 = 2 then (14, 7) else (if (x - 310) % 5 = 3 then (10, 0) else (14, 7)))))) else (if x < 541 then (6, 0) else (if x < 542 then (14, 300) else (14, 300))))) else (if x < 559 then (if x < 545 then (if x < 544 then (14, 300) else (15, 300)) else (if x < 551 then (14, 300) else (if x < 552 then (9, 0) else (14, 80)))) else (if x < 562 then (if x < 560 then (5, 0) else (if x < 561 then (10, 0) else (14, 7))) else (if x < 563 then (13, 1000) else (if x < 564 then (5, 0) else (10, 0))))))) else (if x < 1785 then (if x < 575 then (if x < 570 then (if x < 567 then (if x < 566 then (14, 7) else (13, 1000)) else (if x < 568 then (4, 0) else (if x < 569 then (16, 240) else (2, 0)))) else (if x < 572 then (if x < 571 then (10, 0) else (14, 100)) else (if x < 573 then (10, 0) else (if x < 574 then (14, 100) else (14, 480))))) else (if x < 580 then (if x < 577 then (if x < 576 then (17, 480) else (14, 480)) else (if x < 578 then (14, 480) else (if x < 579 then (14, 480) else (14, 480)))) else (if x < 583 then (if x < 581 then (14, 240) else (if x < 582 then (14, 240) else (14, 240))) else (if x < 584 then (14, 240) else (if x < 1784 then (if (x - 584) % 5 = 0 then (2, 0) else (if (x - 584) % 5 = 1 then (10, 0) else (if (x - 584) % 5 = 2 then (14, 7) else (if (x - 584) % 5 = 3 then (10, 0) else (14, 7))))) else (8, 0)))))) else (if x < 1795 then (if x < 1790 then (if x < 1787 then (if x < 1786 then (16, 80) else (2, 0)) else (if x < 1788 then (10, 0) else (if x < 1789 then (14, 7) else (10, 0)))) else (if x < 1792 then (if x < 1791 then (14, 7) else (2, 0)) else (if x < 1793 then (10, 0) else (if x < 1794 then (14, 7) else (10, 0))))) else (if x < 1800 then (if x < 1797 then (if x < 1796 then (14, 7) else (2, 0)) else (if x < 1798 then (10, 0) else (if x < 1799 then (14, 100) else (10, 0)))) else (if x < 1803 then (if x < 1801 then (14, 100) else (if x < 1802 then (2, 0) else (10, 0))) else (if x < 1804 then (14, 100) else (if x < 1805 then (10, 0) else (14, 100)))))))) else (if x < 4569 then (if x < 4406 then (if x < 2221 then (if x < 2216 then (if x < 2207 then (if x < 2206 then (if (x - 1806) % 5 = 0 then (2, 0) else (if (x - 1806) % 5 = 1 then (10, 0) else (if (x - 1806) % 5 = 2 then (14, 7) else (if (x - 1806) % 5 = 3 then (10, 0) else (14, 7))))) else (7, 0)) else (if x < 2208 then (9, 0) else (if x < 2215 then (14, 80) else (3, 0)))) else (if x < 2218 then (if x < 2217 then (16, 432) else (14, 48)) else (if x < 2219 then (16, 9) else (if x < 2220 then (16, 9) else (2, 0))))) else (if x < 2226 then (if x < 2223 then (if x < 2222 then (10, 0) else (14, 100)) else (if x < 2224 then (10, 0) else (if x < 2225 then (14, 100) else (2, 0)))) else (if x < 2229 then (if x < 2227 then (10, 0) else (if x < 2228 then (14, 100) else (10, 0))) else (if x < 2230 then (14, 100) else (if x < 2231 then (16, 9) else (if (x - 2231) % 5 = 0 then (2, 0) else (if (x - 2231) % 5 = 1 then (10, 0) else (if (x - 2231) % 5 = 2 then (14, 7) else (if (x - 2231) % 5 = 3 then (10, 0) else (14, 7)))))))))) else (if x < 4550 then (if x < 4545 then (if x < 4542 then (if x < 4541 then (if (x - 4406) % 15 = 0 then (2, 0) else (if (x - 4406) % 15 = 1 then (10, 0) else (if (x - 4406) % 15 = 2 then (14, 100) else (if (x - 4406) % 15 = 3 then (10, 0) else (if (x - 4406) % 15 = 4 then (14, 100) else (if (x - 4406) % 15 = 5 then (2, 0) else (if (x - 4406) % 15 = 6 then (10, 0) else (if (x - 4406) % 15 = 7 then (14, 100) else (if (x - 4406) % 15 = 8 then (10, 0) else (if (x - 4406) % 15 = 9 then (14, 100) else (if (x - 4406) % 15 = 10 then (2, 0) else (if (x - 4406) % 15 = 11 then (10, 0) else (if (x - 4406) % 15 = 12 then (14, 7) else (if (x - 4406) % 15 = 13 then (10, 0) else (14, 7))))))))))))))) else (2, 0)) else (if x < 4543 then (10, 0) else (if x < 4544 then (14, 7) else (10, 0)))) else (if x < 4547 then (if x < 4546 then (14, 7) else (2, 0)) else (if x < 4548 then (10, 0) else (if x < 4549 then (14, 7) else (10, 0))))) else (if x < 4563 then (if x < 4552 then (if x < 4551 then (14, 7) else (9, 0)) else (if x < 4561 then (14, 80) else (if x < 4562 then (14, 60) else (14, 60)))) else (if x < 4566 then (if x < 4564 then (14, 60) else (if x < 4565 then (14, 60) else (14, 60))) else (if x < 4567 then (14, 60) else (if x < 4568 then (14, 60) else (14, 60))))))) else (if x < 4596 then (if x < 4579 then (if x < 4574 then (if x < 4571 then (if x < 4570 then (14, 60) else (14, 60)) else (if x < 4572 then (14, 60) else (if x < 4573 then (14, 60) else (14, 60)))) else (if x < 4576 then (if x < 4575 then (14, 60) else (14, 60)) else (if x < 4577 then (14, 60) else (if x < 4578 then (14, 60) else (14, 60))))) else (if x < 4584 then (if x < 4581 then (if x < 4580 then (14, 60) else (14, 60)) else (if x < 4582 then (14, 60) else (if x < 4583 then (14, 60) else (14, 60)))) else (if x < 4593 then (if x < 4591 then (14, 60) else (if x < 4592 then (14, 60) else (14, 60))) else (if x < 4594 then (14, 60) else (if x < 4595 then (14, 60) else (14, 60)))))) else (if x < 4614 then (if x < 4608 then (if x < 4598 then (if x < 4597 then (14, 60) else (14, 60)) else (if x < 4599 then (14, 60) else (if x < 4600 then (14, 60) else (14, 60)))) else (if x < 4611 then (if x < 4609 then (14, 60) else (if x < 4610 then (14, 60) else (14, 60))) else (if x < 4612 then (14, 60) else (if x < 4613 then (14, 60) else (14, 60))))) else (if x < 4619 then (if x < 4616 then (if x < 4615 then (14, 60) else (14, 60)) else (if x < 4617 then (14, 60) else (if x < 4618 then (14, 60) else (14, 60)))) else (if x < 4622 then (if x < 4620 then (14, 60) else (if x < 4621 then (14, 60) else (14, 60))) else (if x < 4623 then (14, 60) else (if x < 4624 then (14, 60) else (14, 60)))))))))
def RR : Nat → Nat → Option Nat := fun x k => (if x < 1793 then (if x < 551 then (if x < 16 then (if x < 6 then (if x < 3 then (if x < 1 then (if k = 0 then some 10 else (if k = 2 then some 11 else (if k = 3 then some 540 else (if k = 4 then some 559 else (if k = 5 then some 563 else (if k = 6 then some 567 else (if k = 7 then some 1784 else (if k = 8 then some 2206 else (if k = 9 then some 2215 else (if k = 10 then some 4541 else (if k = 11 then some 4546 else (if k = 12 then some 4551 else (if k = 13 then some 4559 else (if k = 14 then some 4560 else none)))))))))))))) else (if x < 2 then (if k = 0 then some 2 else (if k = 1 then some 4 else (if k = 2 then some 6 else (if k = 3 then some 8 else none)))) else (if k = 0 then some 3 else none))) else (if x < 4 then none else (if x < 5 then (if k = 0 then some 5 else none) else none))) else (if x < 9 then (if x < 7 then (if k = 0 then some 7 else none) else (if x < 8 then none else (if k = 0 then some 9 else none))) else (if x < 11 then none else (if x < 12 then (if k = 0 then some 12 else (if k = 1 then some 13 else (if k = 2 then some 14 else (if k = 3 then some 15 else (if k = 4 then some 16 else (if k = 6 then some 17 else (if k = 7 then some 18 else (if k = 8 then some 19 else (if k = 9 then some 46 else (if k = 10 then some 47 else (if k = 11 then some 48 else (if k = 12 then some 69 else none)))))))))))) else none)))) else (if x < 49 then (if x < 19 then (if x < 17 then (if k < 30 then some (70 + 8 * k) else none) else (if x < 18 then (if k < 26 then some (310 + 5 * k) else none) else none)) else (if x < 20 then (if k < 26 then some (20 + 1 * k) else none) else (if x < 48 then none else (if k < 20 then some (49 + 1 * k) else none)))) else (if x < 310 then (if x < 69 then none else (if x < 70 then (if k < 20 then some (440 + 5 * k) else none) else (if (x - 70) % 8 = 0 then (if k < 7 then some (x + 1 + k) else none) else none))) else (if x < 540 then (if (x - 310) % 5 = 0 then (if k = 0 then some (x + 1) else if k = 1 then some (x + 3) else none) else if (x - 310) % 5 = 1 then (if k = 0 then some (x + 1) else none) else if (x - 310) % 5 = 3 then (if k = 0 then some (x + 1) else none) else none) else (if x < 541 then (if k = 0 then some 11 else (if k = 1 then some 541 else (if k = 2 then some 542 else (if k = 3 then some 543 else (if k = 4 then some 544 else (if k = 9 then some 545 else (if k = 10 then some 546 else (if k = 11 then some 547 else (if k = 12 then some 548 else (if k = 13 then some 549 else (if k = 15 then some 550 else (if k = 17 then some 551 else none)))))))))))) else none))))) else (if x < 571 then (if x < 564 then (if x < 560 then (if x < 552 then (if k = 0 then some 552 else (if k = 1 then some 553 else (if k = 2 then some 554 else (if k = 3 then some 555 else (if k = 4 then some 556 else (if k = 5 then some 557 else (if k = 6 then some 558 else none))))))) else (if x < 559 then none else (if k = 0 then some 540 else (if k = 1 then some 560 else (if k = 2 then some 562 else none))))) else (if x < 561 then (if k = 0 then some 561 else none) else (if x < 563 then none else (if k = 0 then some 540 else (if k = 1 then some 564 else (if k = 2 then some 566 else none)))))) else (if x < 568 then (if x < 565 then (if k = 0 then some 565 else none) else (if x < 567 then none else (if k = 0 then some 11 else (if k = 1 then some 1 else (if k = 2 then some 568 else (if k = 5 then some 569 else (if k = 6 then some 574 else (if k = 7 then some 575 else (if k = 8 then some 576 else (if k = 9 then some 577 else (if k = 10 then some 578 else (if k = 11 then some 579 else (if k = 14 then some 580 else (if k = 15 then some 581 else (if k = 16 then some 582 else (if k = 17 then some 583 else none)))))))))))))))) else (if x < 569 then (if k < 240 then some (584 + 5 * k) else none) else (if x < 570 then (if k = 0 then some 570 else (if k = 1 then some 572 else none)) else (if k = 0 then some 571 else none))))) else (if x < 1786 then (if x < 584 then (if x < 572 then none else (if x < 573 then (if k = 0 then some 573 else none) else none)) else (if x < 1784 then (if (x - 584) % 5 = 0 then (if k = 0 then some (x + 1) else if k = 1 then some (x + 3) else none) else if (x - 584) % 5 = 1 then (if k = 0 then some (x + 1) else none) else if (x - 584) % 5 = 3 then (if k = 0 then some (x + 1) else none) else none) else (if x < 1785 then (if k = 0 then some 567 else (if k = 1 then some 1 else (if k = 2 then some 1785 else (if k = 4 then some 1786 else (if k = 5 then some 1791 else (if k = 6 then some 1796 else (if k = 7 then some 1801 else none))))))) else (if k < 80 then some (1806 + 5 * k) else none)))) else (if x < 1789 then (if x < 1787 then (if k = 0 then some 1787 else (if k = 1 then some 1789 else none)) else (if x < 1788 then (if k = 0 then some 1788 else none) else none)) else (if x < 1791 then (if x < 1790 then (if k = 0 then some 1790 else none) else none) else (if x < 1792 then (if k = 0 then some 1792 else (if k = 1 then some 1794 else none)) else (if k = 0 then some 1793 else none))))))) else (if x < 2222 then (if x < 1805 then (if x < 1799 then (if x < 1796 then (if x < 1794 then none else (if x < 1795 then (if k = 0 then some 1795 else none) else none)) else (if x < 1797 then (if k = 0 then some 1797 else (if k = 1 then some 1799 else none)) else (if x < 1798 then (if k = 0 then some 1798 else none) else none))) else (if x < 1802 then (if x < 1800 then (if k = 0 then some 1800 else none) else (if x < 1801 then none else (if k = 0 then some 1802 else (if k = 1 then some 1804 else none)))) else (if x < 1803 then (if k = 0 then some 1803 else none) else (if x < 1804 then none else (if k = 0 then some 1805 else none))))) else (if x < 2216 then (if x < 2207 then (if x < 1806 then none else (if x < 2206 then (if (x - 1806) % 5 = 0 then (if k = 0 then some (x + 1) else if k = 1 then some (x + 3) else none) else if (x - 1806) % 5 = 1 then (if k = 0 then some (x + 1) else none) else if (x - 1806) % 5 = 3 then (if k = 0 then some (x + 1) else none) else none) else (if k = 0 then some 11 else (if k = 2 then some 2207 else none)))) else (if x < 2208 then (if k = 0 then some 2208 else (if k = 1 then some 2209 else (if k = 2 then some 2210 else (if k = 3 then some 2211 else (if k = 4 then some 2212 else (if k = 5 then some 2213 else (if k = 6 then some 2214 else none))))))) else (if x < 2215 then none else (if k = 0 then some 11 else (if k = 1 then some 1 else (if k = 2 then some 2216 else (if k = 3 then some 2217 else (if k = 5 then some 2218 else (if k = 6 then some 2219 else (if k = 7 then some 2220 else (if k = 8 then some 2225 else (if k = 9 then some 2230 else (if k = 10 then some 2231 else (if k = 11 then some 2236 else (if k = 12 then some 2241 else none))))))))))))))) else (if x < 2219 then (if x < 2217 then (if k < 432 then some (2246 + 5 * k) else none) else (if x < 2218 then none else (if k < 9 then some (4406 + 15 * k) else none))) else (if x < 2220 then (if k < 9 then some (4411 + 15 * k) else none) else (if x < 2221 then (if k = 0 then some 2221 else (if k = 1 then some 2223 else none)) else (if k = 0 then some 2222 else none)))))) else (if x < 4542 then (if x < 2228 then (if x < 2225 then (if x < 2223 then none else (if x < 2224 then (if k = 0 then some 2224 else none) else none)) else (if x < 2226 then (if k = 0 then some 2226 else (if k = 1 then some 2228 else none)) else (if x < 2227 then (if k = 0 then some 2227 else none) else none))) else (if x < 2231 then (if x < 2229 then (if k = 0 then some 2229 else none) else (if x < 2230 then none else (if k < 9 then some (4416 + 15 * k) else none))) else (if x < 4406 then (if (x - 2231) % 5 = 0 then (if k = 0 then some (x + 1) else if k = 1 then some (x + 3) else none) else if (x - 2231) % 5 = 1 then (if k = 0 then some (x + 1) else none) else if (x - 2231) % 5 = 3 then (if k = 0 then some (x + 1) else none) else none) else (if x < 4541 then (if (x - 4406) % 5 = 0 then (if k = 0 then some (x + 1) else if k = 1 then some (x + 3) else none) else if (x - 4406) % 5 = 1 then (if k = 0 then some (x + 1) else none) else if (x - 4406) % 5 = 3 then (if k = 0 then some (x + 1) else none) else none) else (if k = 0 then some 4542 else (if k = 1 then some 4544 else none)))))) else (if x < 4548 then (if x < 4545 then (if x < 4543 then (if k = 0 then some 4543 else none) else (if x < 4544 then none else (if k = 0 then some 4545 else none))) else (if x < 4546 then none else (if x < 4547 then (if k = 0 then some 4547 else (if k = 1 then some 4549 else none)) else (if k = 0 then some 4548 else none)))) else (if x < 4551 then (if x < 4549 then none else (if x < 4550 then (if k = 0 then some 4550 else none) else none)) else (if x < 4561 then (if x < 4552 then (if k = 0 then some 4552 else (if k = 1 then some 4553 else (if k = 2 then some 4554 else (if k = 3 then some 4555 else (if k = 4 then some 4556 else (if k = 5 then some 4557 else (if k = 6 then some 4558 else none))))))) else none) else (if x < 4562 then none else none)))))))
def ct (n : Nat) : Nat → Nat × Nat := fun x => if x < n then KK x else (0, 0)
theorem ct_lt {n x : Nat} (h : x < n) : ct n x = KK x := if_pos h
theorem ct_up {n : Nat} {c : Nat × Nat} (h : KK n = c) : va_up (ct n) n c = ct (n + 1) := by
  funext x
  unfold va_up ct
  by_cases h1 : x = n
  · subst h1
    rw [if_pos rfl, if_pos (by omega), h]
  · rw [if_neg h1]
    by_cases h2 : x < n
    · rw [if_pos h2, if_pos (by omega)]
    · rw [if_neg h2, if_neg (by omega)]
def zf (n : Nat) (I : Nat → Nat → Int32) (R : Nat → Nat → Option Nat) : Prop := ∀ x, n ≤ x → I x = (fun _ => 0) ∧ R x = (fun _ => none)
theorem up_id {α : Type} {f : Nat → α} {n : Nat} {v : α} (h : f n = v) : va_up f n v = f := by
  funext x
  unfold va_up
  by_cases h1 : x = n
  · rw [if_pos h1, h1, h]
  · rw [if_neg h1]
theorem zf_R {n a : Nat} {I : Nat → Nat → Int32} {R : Nat → Nat → Option Nat} {r : Nat → Option Nat} (h : zf n I R) (ha : a < n) : zf n I (va_up R a r) := fun x hx => ⟨(h x hx).1, by unfold va_up; rw [if_neg (by omega)]; exact (h x hx).2⟩
theorem zf_I {n a : Nat} {I : Nat → Nat → Int32} {R : Nat → Nat → Option Nat} {r : Nat → Int32} (h : zf n I R) (ha : a < n) : zf n (va_up I a r) R := fun x hx => ⟨by unfold va_up; rw [if_neg (by omega)]; exact (h x hx).1, (h x hx).2⟩
theorem zf_le {n m : Nat} {I : Nat → Nat → Int32} {R : Nat → Nat → Option Nat} (h : zf n I R) (ha : n ≤ m) : zf m I R := fun x hx => h x (by omega)
abbrev mg (n : Nat) (I : Nat → Nat → Int32) (J : Nat → Nat → Int64) (R : Nat → Nat → Option Nat) : xM := (n, ct n, I, J, R)
abbrev me (n : Nat) (I : Nat → Nat → Int32) (R : Nat → Nat → Option Nat) : xM := mg n I zJ R
theorem me_xk {n a c : Nat} {I : Nat → Nat → Int32} {J : Nat → Nat → Int64} {R : Nat → Nat → Option Nat} (ha : a < n) (h : (KK a).1 = c) : xk (mg n I J R) a c = true := by
  unfold xk
  show (decide (a < n) && (ct n a).1 == c) = true
  rw [ct_lt ha, h, decide_eq_true ha]
  simp
theorem xb_eq {α β : Type} {x : Option α} {a : α} {f : α → Option β} {r : Option β} (h : x = some a) (k : f a = r) : x.bind f = r := by rw [h]; exact k
theorem xb_iq {α : Type} {c : Bool} {x y r : Option α} (h : c = true) (k : x = r) : (if c = true then x else y) = r := by rw [if_pos h]; exact k
theorem hzJ {n : Nat} (h : n < 4562) : va_up zJ n (fun _ => 0) = zJ := up_id (funext fun k => by unfold zJ; rw [if_pos h])
section EF
variable {n : Nat} {I : Nat → Nat → Int32} {J : Nat → Nat → Int64} {R : Nat → Nat → Option Nat}
theorem e_nwO {c : Nat} {rs : List Nat} (hz : zf n I R) (hk : KK n = (c, 0)) (hr : rs.all (fun a => decide (a < n) || a == xkX) = true) (hn : n < 4562) : nwO (me n I R) c rs = some (me (n + 1) I R) := by
  unfold nwO
  rw [if_pos (by rw [Bool.and_eq_true]; exact ⟨hr, decide_eq_true (Nat.lt_trans hn (by decide : 4562 < xkS))⟩)]
  show some (n + 1, va_up (ct n) n (c, 0), va_up I n (fun _ => 0), va_up zJ n (fun _ => 0), va_up R n (fun _ => none)) = _
  rw [ct_up hk, up_id (hz n (Nat.le_refl _)).1, hzJ hn, up_id (hz n (Nat.le_refl _)).2]
theorem e_nwA {kd w : Nat} {l : Int32} {rs : List Nat} (hz : zf n I R) (hk : KK n = (kd, l.toNatClampNeg)) (hl : (decide (¬ l < 0) && decide (l.toNatClampNeg * w ≤ 536870912)) = true) (hr : rs.all (fun a => decide (a < n) || a == xkX) = true) (hn : n < 4562) : nwA (me n I R) kd l w rs = some (me (n + 1) I R) := by
  unfold nwA
  rw [Bool.and_eq_true] at hl
  rw [if_pos (by rw [Bool.and_eq_true, Bool.and_eq_true, Bool.and_eq_true]; exact ⟨⟨⟨hr, decide_eq_true (Nat.lt_trans hn (by decide : 4562 < xkS))⟩, hl.1⟩, hl.2⟩)]
  show some (n + 1, va_up (ct n) n (kd, l.toNatClampNeg), va_up I n (fun _ => 0), va_up zJ n (fun _ => 0), va_up R n (fun _ => none)) = _
  rw [ct_up hk, up_id (hz n (Nat.le_refl _)).1, hzJ hn, up_id (hz n (Nat.le_refl _)).2]
theorem e_sR {a c k v : Nat} (ha : a < n) (hk : (KK a).1 = c) (hv : v < n) : sR (mg n I J R) a c k v = some (mg n I J (va_up R a (va_up (R a) k (some v)))) := by
  unfold sR
  rw [if_pos (by rw [Bool.and_eq_true]; exact ⟨me_xk ha hk, decide_eq_true hv⟩)]
  rfl
theorem e_gR {a c k v : Nat} (ha : a < n) (hk : (KK a).1 = c) (hv : R a k = some v) : gR (mg n I J R) a c k = some v := by
  unfold gR
  rw [if_pos (me_xk ha hk)]
  exact hv
theorem e_cdo {m : Nat} {I' : Nat → Nat → Int32} {R' : Nat → Nat → Option Nat} {rs : List Nat} (hr : rs.all (fun a => decide (a < n) || a == xkX) = true) (h : n ≤ m) : cdo (me n I R) (me m I' R') rs = some (me m I' R') := by
  unfold cdo
  rw [if_pos (by rw [Bool.and_eq_true]; exact ⟨hr, decide_eq_true h⟩)]
theorem i32_nat {k : Nat} (h : k < 2147483648) : (Int32.ofNat k).toNatClampNeg = k := by
  have : (Int32.ofNat k).toInt = k := Int32.toInt_ofNat_of_lt (by simpa using h)
  unfold Int32.toNatClampNeg
  rw [this]
  rfl
theorem xvi_nat {k len : Nat} (h : k < len) (hl : len ≤ 2147483648) : xvi (Int32.ofNat k) len = true := by
  unfold xvi
  rw [i32_nat (by omega)]
  refine decide_eq_true (fun q => ?_)
  rcases q with q | q
  · rw [Int32.lt_iff_toInt_lt, Int32.toInt_ofNat_of_lt (by simp; omega)] at q
    simp at q
    omega
  · omega
theorem e_wR {a kd ci v k len : Nat} (ha : a < n) (hk : KK a = (kd, len)) (hi : k < len) (hl : len ≤ 2147483648) (hv : v < n) (hkv : (KK v).1 = ci) : wR (mg n I J R) a kd ci (Int32.ofNat k) v = some (mg n I J (va_up R a (va_up (R a) k (some v)))) := by
  unfold wR
  rw [if_pos (by
    rw [Bool.and_eq_true, Bool.and_eq_true]
    refine ⟨⟨me_xk ha (by rw [hk]), ?_⟩, me_xk hv hkv⟩
    show xvi _ (ct n a).2 = true
    rw [ct_lt ha, hk]
    exact xvi_nat hi hl)]
  unfold xsR
  rw [i32_nat (by omega)]
theorem e_nwM {N k : Nat} {ln lk : Int32} {rs : List Nat} (hz : zf n I R) (hN : ln.toNatClampNeg = N) (hK : lk.toNatClampNeg = k) (hk : KK n = (18, N)) (hkk : ∀ i, i < N → KK (n + (1 + i)) = (14, k)) (hl : (decide (¬ ln < 0) && decide (¬ lk < 0) && decide (N * 4 ≤ 536870912) && decide (k * componentBytes .int ≤ 536870912) && decide (k ≤ 536870912)) = true) (hr : rs.all (fun a => decide (a < n) || a == xkX) = true) (hn : n + (1 + N) < xkS) : nwM (me n I R) ln lk rs = some (me (n + (1 + N)) I (va_up R n (fun i => if i < N then some (n + (1 + i)) else none))) := by
  subst hN hK
  simp only [Bool.and_eq_true] at hl
  obtain ⟨⟨⟨⟨h1, h2⟩, h3⟩, h4⟩, h5⟩ := hl
  unfold nwM
  rw [if_pos (by simp only [Bool.and_eq_true]; exact ⟨⟨⟨⟨⟨⟨hr, decide_eq_true hn⟩, h1⟩, h2⟩, h3⟩, h4⟩, h5⟩)]
  generalize ln.toNatClampNeg = N at *
  generalize lk.toNatClampNeg = k at *
  unfold xmulti
  have e1 : (fun a => if a = n then (18, N) else if n < a ∧ a < n + (1 + N) then (14, k) else ct n a) = ct (n + (1 + N)) := by
    funext a
    by_cases q1 : a = n
    · subst q1
      rw [if_pos rfl, ct_lt (by omega), hk]
    · rw [if_neg q1]
      by_cases q2 : n < a ∧ a < n + (1 + N)
      · rw [if_pos q2, ct_lt q2.2, show a = n + (1 + (a - n - 1)) by omega, hkk (a - n - 1) (by omega)]
      · rw [if_neg q2]
        unfold ct
        by_cases q3 : a < n
        · rw [if_pos q3, if_pos (by omega)]
        · rw [if_neg q3, if_neg (by omega)]
  have e2 : (fun a => if n < a ∧ a < n + (1 + N) then (fun _ => 0) else I a) = I := by
    funext a
    split
    · next q => exact (hz a (by omega)).1.symm
    · rfl
  show some (n + (1 + N), (fun a => if a = n then (18, N) else if n < a ∧ a < n + (1 + N) then (14, k) else ct n a), (fun a => if n < a ∧ a < n + (1 + N) then (fun _ => 0) else I a), zJ, (fun a => if a = n then (fun i => if i < N then some (n + (1 + i)) else none) else R a)) = _
  rw [e1, e2]
  rfl
/-! a Whole -/
def whR (R : Nat → Nat → Option Nat) (a : Nat) : Nat → Nat → Option Nat := va_up R a (va_up (R a) 0 (some (a + 1)))
theorem e_init7 {a : Nat} (hz : zf n I R) (ha : a < n) (hka : (KK a).1 = 10) (hk : KK n = (14, 7)) (hn : n < 4562) : f_X10_init7 (me n I R) a = some (me (n + 1) I (va_up R a (va_up (R a) 0 (some n)))) := by
  have hr : ([a, a] : List Nat).all (fun a => decide (a < n) || a == xkX) = true := by simp [ha]
  unfold f_X10_init7
  refine xb_eq (e_nwA hz hk rfl hr hn) ?_
  exact xb_eq (e_sR (by omega) hka (Nat.lt_succ_self _)) rfl
theorem e_init100 {a : Nat} (hz : zf n I R) (ha : a < n) (hka : (KK a).1 = 10) (hk : KK n = (14, 100)) (hn : n < 4562) : f_X10_init100 (me n I R) a = some (me (n + 1) I (va_up R a (va_up (R a) 0 (some n)))) := by
  have hr : ([a, a] : List Nat).all (fun a => decide (a < n) || a == xkX) = true := by simp [ha]
  unfold f_X10_init100
  refine xb_eq (e_nwA hz hk rfl hr hn) ?_
  exact xb_eq (e_sR (by omega) hka (Nat.lt_succ_self _)) rfl
/-- set(1) on a fresh whole -/
def s1I (I : Nat → Nat → Int32) (b : Nat) : Nat → Nat → Int32 := va_up (va_up I b (va_up (fun _ => 0) 1 1)) (b + 1) (va_up (fun _ => 0) 0 1)
theorem xl_s {α β γ : Type} {step : α → Option (γ ⊕ (β ⊕ α))} {n : Nat} {s s' : α} (hn : 0 < n) (h : step s = some (.inr (.inr s'))) : xloop step n s = xloop step (n - 1) s' := by
  obtain ⟨k, rfl⟩ : ∃ k, n = k + 1 := ⟨n - 1, by omega⟩
  rw [xloop, h]
  show xloop step k s' = _
  rw [show k + 1 - 1 = k from rfl]
theorem xl_e {α β γ : Type} {step : α → Option (γ ⊕ (β ⊕ α))} {n : Nat} {s : α} {e : β} (hn : 0 < n) (h : step s = some (.inr (.inl e))) : xloop step n s = some (.inr e) := by
  obtain ⟨k, rfl⟩ : ∃ k, n = k + 1 := ⟨n - 1, by omega⟩
  rw [xloop, h]
theorem xl_g {α β γ : Type} {step : α → Option (γ ⊕ (β ⊕ α))} {n : Nat} {s : α} {g : γ} (hn : 0 < n) (h : step s = some (.inl g)) : xloop step n s = some (.inl g) := by
  obtain ⟨k, rfl⟩ : ∃ k, n = k + 1 := ⟨n - 1, by omega⟩
  rw [xloop, h]
/-- a loop that runs through a row of states -/
theorem xl_seq {α β γ : Type} {step : α → Option (γ ⊕ (β ⊕ α))} (s : Nat → α) {N : Nat} {e : γ ⊕ β} (h : ∀ i, i < N → step (s i) = some (.inr (.inr (s (i + 1))))) (he : step (s N) = some (match e with | .inl g => .inl g | .inr e => .inr (.inl e))) : ∀ {f : Nat}, N < f → xloop step f (s 0) = some e := by
  have : ∀ k i f, i + k = N → k < f → xloop step f (s i) = some e := by
    intro k
    induction k with
    | zero =>
      intro i f hi hf
      have : i = N := by omega
      subst this
      cases e with
      | inl g => exact xl_g hf he
      | inr e => exact xl_e hf he
    | succ k ih =>
      intro i f hi hf
      rw [xl_s (by omega) (h i (by omega))]
      exact ih (i + 1) (f - 1) (by omega) (by omega)
  intro f hf
  exact this N 0 f (by omega) hf
theorem e_gI {a c k : Nat} (ha : a < n) (hk : (KK a).1 = c) : gI (mg n I J R) a c k = some (I a k) := by
  unfold gI
  rw [if_pos (me_xk ha hk)]
theorem e_sI {a c k : Nat} {v : Int32} (ha : a < n) (hk : (KK a).1 = c) : sI (mg n I J R) a c k v = some (mg n (va_up I a (va_up (I a) k v)) J R) := by
  unfold sI
  rw [if_pos (me_xk ha hk)]
  rfl
theorem e_sZ {a c k : Nat} {v : Int32} (ha : a < n) (hk : (KK a).1 = c) (hv : (v == 0 || v == 1) = true) : sZ (mg n I J R) a c k v = some (mg n (va_up I a (va_up (I a) k v)) J R) := by
  unfold sZ
  rw [if_pos (by rw [Bool.and_eq_true]; exact ⟨me_xk ha hk, hv⟩)]
  rfl
theorem e_gL {a kd len : Nat} (ha : a < n) (hk : KK a = (kd, len)) : gL (mg n I J R) a kd = some (Int32.ofNat len) := by
  unfold gL
  rw [if_pos (me_xk ha (by rw [hk]))]
  show some (Int32.ofNat (ct n a).2) = _
  rw [ct_lt ha, hk]
theorem e_wI {a k len : Nat} {v : Int32} (ha : a < n) (hk : KK a = (14, len)) (hi : k < len) (hl : len ≤ 2147483648) : wI (mg n I J R) a (Int32.ofNat k) v = some (mg n (va_up I a (va_up (I a) k v)) J R) := by
  unfold wI
  rw [if_pos (by
    rw [Bool.and_eq_true]
    refine ⟨me_xk ha (by rw [hk]), ?_⟩
    show xvi _ (ct n a).2 = true
    rw [ct_lt ha, hk]
    exact xvi_nat hi hl)]
  unfold xsI
  rw [i32_nat (by omega)]
theorem e_aI {a k len kd : Nat} (ha : a < n) (hk : KK a = (kd, len)) (hi : k < len) (hl : len ≤ 2147483648) : aI (mg n I J R) a kd (Int32.ofNat k) = some (I a k) := by
  unfold aI
  rw [if_pos (by
    rw [Bool.and_eq_true]
    refine ⟨me_xk ha (by rw [hk]), ?_⟩
    show xvi _ (ct n a).2 = true
    rw [ct_lt ha, hk]
    exact xvi_nat hi hl), i32_nat (by omega)]
theorem up_up {α : Type} {f : Nat → α} {k : Nat} {v w : α} : va_up (va_up f k v) k w = va_up f k w := by
  funext x
  unfold va_up
  split <;> rfl
theorem up_comm {α : Type} {f : Nat → α} {k j : Nat} {v w : α} (h : k ≠ j) : va_up (va_up f k v) j w = va_up (va_up f j w) k v := by
  funext x
  unfold va_up
  by_cases h1 : x = j
  · rw [if_pos h1, if_neg (by omega), if_pos h1]
  · rw [if_neg h1, if_neg h1]
theorem e_set1 {b m : Nat} (hb : b + 1 < n) (hk : (KK b).1 = 10) (hk1 : KK (b + 1) = (14, m)) (hm : 2 ≤ m) (hm2 : m < 2147483648) (hR : R b 0 = some (b + 1)) (hI : I b = fun _ => 0) (hI1 : I (b + 1) = fun _ => 0) : f_X10_set (me n I R) b 1 = some (me n (s1I I b) R) := by
  unfold f_X10_set
  rw [if_pos (by decide)]
  unfold f_X10_set_j12
  refine xb_eq (e_sZ (by omega) hk rfl) (xb_eq (e_sI (by omega) hk) (xb_eq (e_gI (by omega) hk) ?_))
  rw [hI, up_id (f := I) (show I b = va_up (fun _ => 0) 2 0 from by rw [hI, up_id rfl]), hI, up_id (f := I) (show I b = va_up (fun _ => 0) 1 0 from by rw [hI, up_id rfl]), hI]
  show (if (0 : Int32) = 0 then _ else _) = _
  rw [if_pos rfl]
  unfold f_X10_set_j33 xlet
  have e1 : f_X10_set_s37 (b, 1, 0, me n I R) = some (.inr (.inr (b, 0, 1, me n (s1I I b) R))) := by
    unfold f_X10_set_s37 xlet
    dsimp only
    refine xb_eq (e_gR (by omega) hk hR) (xb_eq (e_gL hb hk1) ?_)
    have : ¬ (Int32.ofNat m ≤ 0) := by
      rw [Int32.le_iff_toInt_le, Int32.toInt_ofNat_of_lt (by simpa using hm2)]
      simp
      omega
    rw [if_neg this, if_neg (by decide)]
    refine xb_eq (e_gR (by omega) hk hR) (xb_eq (e_wI (k := 0) hb hk1 (by omega) (by omega)) ?_)
    refine xb_eq (e_sI (by omega) hk) ?_
    refine congrArg (fun q => some (Sum.inr (Sum.inr q))) ?_
    refine congrArg (fun q => (b, (0 : Int64), (1 : Int32), q)) ?_
    show (n, ct n, _, zJ, R) = (n, ct n, _, zJ, R)
    congr 3
    unfold s1I
    rw [hI1, va_up_ne _ _ (by omega : b ≠ b + 1), hI, up_comm (by omega)]
    rfl
  have e2 : f_X10_set_s37 (b, 0, 1, me n (s1I I b) R) = some (.inr (.inl (me n (s1I I b) R))) := by
    unfold f_X10_set_s37 xlet
    dsimp only
    refine xb_eq (e_gR (by omega) hk hR) (xb_eq (e_gL hb hk1) ?_)
    have : ¬ (Int32.ofNat m ≤ 1) := by
      rw [Int32.le_iff_toInt_le, Int32.toInt_ofNat_of_lt (by simpa using hm2)]
      simp
      omega
    rw [if_neg this, if_pos (by decide)]
  refine xb_eq (a := .inr (me n (s1I I b) R)) ?_ rfl
  rw [xl_s (n := xF) (by decide) e1, xl_e (by decide) e2]
/-! a Fraction -/
def fpI (j : Nat) : Nat → Int32 := if j = 3 then va_up (fun _ => 0) 1 1 else if j = 4 then va_up (fun _ => 0) 0 1 else fun _ => 0
def fpR (b j : Nat) : Nat → Option Nat := if j = 0 then va_up (va_up (fun _ => none) 0 (some (b + 1))) 1 (some (b + 3)) else if j = 1 then va_up (fun _ => none) 0 (some (b + 2)) else if j = 3 then va_up (fun _ => none) 0 (some (b + 4)) else fun _ => none
def frI (I : Nat → Nat → Int32) (b : Nat) : Nat → Nat → Int32 := fun x => if b ≤ x ∧ x < b + 5 then fpI (x - b) else I x
def frR (R : Nat → Nat → Option Nat) (b : Nat) : Nat → Nat → Option Nat := fun x => if b ≤ x ∧ x < b + 5 then fpR b (x - b) else R x
theorem e_fr7 {ρ : Type} {rs rs2 : List Nat} {K : xM → Option ρ} {r : Option ρ} (hz : zf n I R) (hn : n + 5 < 4562) (k0 : KK n = (2, 0)) (k1 : KK (n + 1) = (10, 0)) (k2 : KK (n + 2) = (14, 7)) (k3 : KK (n + 3) = (10, 0)) (k4 : KK (n + 4) = (14, 7)) (hr : rs.all (fun a => decide (a < n) || a == xkX) = true) (hr2 : rs2.all (fun a => decide (a < n + 1) || a == xkX) = true) (k : K (me (n + 5) (frI I n) (frR R n)) = r) : (nwO (me n I R) 2 rs).bind (fun σ1 => (f_X2_init7 σ1 n).bind (fun τ => (cdo σ1 τ rs2).bind K)) = r := by
  refine xb_eq (e_nwO hz k0 hr (by omega)) ?_
  have z1 : zf (n + 1) I R := zf_le hz (by omega)
  have q2 : ∀ {m : Nat}, n < m → ([n, n] : List Nat).all (fun a => decide (a < m) || a == xkX) = true := fun h => by simp [h]
  have q3 : ∀ {m b : Nat}, b < m → n < m → ([b, n, n] : List Nat).all (fun a => decide (a < m) || a == xkX) = true := fun h h' => by simp [h, h']
  have hi : f_X2_init7 (me (n + 1) I R) n = some (me (n + 5) (frI I n) (frR R n)) := by
    unfold f_X2_init7
    refine xb_eq (e_nwO z1 k1 (q2 (by omega)) (by omega)) ?_
    refine xb_eq (e_init7 (a := n + 1) (zf_le hz (by omega)) (by omega) (by rw [k1]) k2 (by omega)) ?_
    refine xb_eq (e_cdo (q3 (b := n + 1) (by omega) (by omega)) (by omega)) ?_
    refine xb_eq (e_sR (v := n + 1) (by omega) (by rw [k0]) (by omega)) ?_
    have z3 : zf (n + 1 + 1 + 1) I (va_up (va_up R (n + 1) (va_up (R (n + 1)) 0 (some (n + 1 + 1)))) n (va_up (va_up R (n + 1) (va_up (R (n + 1)) 0 (some (n + 1 + 1))) n) 0 (some (n + 1)))) := zf_R (zf_R (zf_le hz (by omega)) (by omega)) (by omega)
    refine xb_eq (e_nwO z3 k3 (q2 (by omega)) (by omega)) ?_
    refine xb_eq (e_init7 (a := n + 1 + 1 + 1) (zf_le z3 (by omega)) (by omega) (by rw [k3]) k4 (by omega)) ?_
    refine xb_eq (e_cdo (q3 (b := n + 1 + 1 + 1) (by omega) (by omega)) (by omega)) ?_
    refine xb_eq (e_sR (v := n + 1 + 1 + 1) (by omega) (by rw [k0]) (by omega)) ?_
    refine xb_eq (e_gR (v := n + 3) (by omega) (by rw [k0]) (by rw [va_up_self, va_up_self])) ?_
    refine xb_iq (me_xk (by omega) (by rw [k3])) ?_
    refine xb_eq (e_set1 (m := 7) (by omega) (by rw [k3]) k4 (by decide) (by decide) (by
      rw [va_up_ne _ _ (by omega : n + 3 ≠ n), va_up_self, va_up_self]) (hz _ (by omega)).1 (hz _ (by omega)).1) ?_
    refine xb_eq (e_cdo rfl (Nat.le_refl _)) ?_
    show some (n + 5, ct (n + 5), _, zJ, _) = some (n + 5, ct (n + 5), _, zJ, _)
    have eI : s1I I (n + 3) = frI I n := by
      funext x
      unfold s1I frI
      by_cases h : n ≤ x ∧ x < n + 5
      · rw [if_pos h]
        have hx : I x = fun _ => 0 := (hz x h.1).1
        rcases (by omega : x = n ∨ x = n + 1 ∨ x = n + 2 ∨ x = n + 3 ∨ x = n + 3 + 1) with q | q | q | q | q
        · rw [va_up_ne _ _ (by omega), va_up_ne _ _ (by omega), hx, show x - n = 0 by omega]; rfl
        · rw [va_up_ne _ _ (by omega), va_up_ne _ _ (by omega), hx, show x - n = 1 by omega]; rfl
        · rw [va_up_ne _ _ (by omega), va_up_ne _ _ (by omega), hx, show x - n = 2 by omega]; rfl
        · rw [va_up_ne _ _ (by omega), q, va_up_self, show n + 3 - n = 3 by omega]; rfl
        · rw [q, va_up_self, show n + 3 + 1 - n = 4 by omega]; rfl
      · rw [if_neg h, va_up_ne _ _ (by omega), va_up_ne _ _ (by omega)]
    have eR : va_up (va_up (va_up (va_up R (n + 1) (va_up (R (n + 1)) 0 (some (n + 1 + 1)))) n (va_up (va_up R (n + 1) (va_up (R (n + 1)) 0 (some (n + 1 + 1))) n) 0 (some (n + 1)))) (n + 1 + 1 + 1) (va_up (va_up (va_up R (n + 1) (va_up (R (n + 1)) 0 (some (n + 1 + 1)))) n (va_up (va_up R (n + 1) (va_up (R (n + 1)) 0 (some (n + 1 + 1))) n) 0 (some (n + 1))) (n + 1 + 1 + 1)) 0 (some (n + 1 + 1 + 1 + 1)))) n (va_up (va_up (va_up (va_up R (n + 1) (va_up (R (n + 1)) 0 (some (n + 1 + 1)))) n (va_up (va_up R (n + 1) (va_up (R (n + 1)) 0 (some (n + 1 + 1))) n) 0 (some (n + 1)))) (n + 1 + 1 + 1) (va_up (va_up (va_up R (n + 1) (va_up (R (n + 1)) 0 (some (n + 1 + 1)))) n (va_up (va_up R (n + 1) (va_up (R (n + 1)) 0 (some (n + 1 + 1))) n) 0 (some (n + 1))) (n + 1 + 1 + 1)) 0 (some (n + 1 + 1 + 1 + 1))) n) 1 (some (n + 1 + 1 + 1))) = frR R n := by
      have r0 := (hz n (Nat.le_refl _)).2
      have r1 := (hz (n + 1) (by omega)).2
      have r3 := (hz (n + 1 + 1 + 1) (by omega)).2
      funext x
      unfold frR
      by_cases h : n ≤ x ∧ x < n + 5
      · rw [if_pos h]
        have hx : R x = fun _ => none := (hz x h.1).2
        rcases (by omega : x = n ∨ x = n + 1 ∨ x = n + 2 ∨ x = n + 1 + 1 + 1 ∨ x = n + 3 + 1) with q | q | q | q | q
        · rw [q, va_up_self, va_up_ne _ _ (by omega), va_up_self, va_up_ne _ _ (by omega), r0, show n - n = 0 by omega]; rfl
        · rw [va_up_ne _ _ (by omega), va_up_ne _ _ (by omega), va_up_ne _ _ (by omega), q, va_up_self, r1, show n + 1 - n = 1 by omega]; rfl
        · rw [va_up_ne _ _ (by omega), va_up_ne _ _ (by omega), va_up_ne _ _ (by omega), va_up_ne _ _ (by omega), hx, show x - n = 2 by omega]; rfl
        · rw [va_up_ne _ _ (by omega), q, va_up_self, va_up_ne _ _ (by omega), va_up_ne _ _ (by omega), r3, show n + 1 + 1 + 1 - n = 3 by omega]; rfl
        · rw [va_up_ne _ _ (by omega), va_up_ne _ _ (by omega), va_up_ne _ _ (by omega), va_up_ne _ _ (by omega), hx, show x - n = 4 by omega]; rfl
      · rw [if_neg h, va_up_ne _ _ (by omega), va_up_ne _ _ (by omega), va_up_ne _ _ (by omega), va_up_ne _ _ (by omega)]
    rw [eI]
    exact congrArg (fun q => some (n + 5, ct (n + 5), frI I n, zJ, q)) eR
  exact xb_eq hi (xb_eq (e_cdo hr2 (by omega)) k)
theorem e_fr100 {ρ : Type} {rs rs2 : List Nat} {K : xM → Option ρ} {r : Option ρ} (hz : zf n I R) (hn : n + 5 < 4562) (k0 : KK n = (2, 0)) (k1 : KK (n + 1) = (10, 0)) (k2 : KK (n + 2) = (14, 100)) (k3 : KK (n + 3) = (10, 0)) (k4 : KK (n + 4) = (14, 100)) (hr : rs.all (fun a => decide (a < n) || a == xkX) = true) (hr2 : rs2.all (fun a => decide (a < n + 1) || a == xkX) = true) (k : K (me (n + 5) (frI I n) (frR R n)) = r) : (nwO (me n I R) 2 rs).bind (fun σ1 => (f_X2_init100 σ1 n).bind (fun τ => (cdo σ1 τ rs2).bind K)) = r := by
  refine xb_eq (e_nwO hz k0 hr (by omega)) ?_
  have z1 : zf (n + 1) I R := zf_le hz (by omega)
  have q2 : ∀ {m : Nat}, n < m → ([n, n] : List Nat).all (fun a => decide (a < m) || a == xkX) = true := fun h => by simp [h]
  have q3 : ∀ {m b : Nat}, b < m → n < m → ([b, n, n] : List Nat).all (fun a => decide (a < m) || a == xkX) = true := fun h h' => by simp [h, h']
  have hi : f_X2_init100 (me (n + 1) I R) n = some (me (n + 5) (frI I n) (frR R n)) := by
    unfold f_X2_init100
    refine xb_eq (e_nwO z1 k1 (q2 (by omega)) (by omega)) ?_
    refine xb_eq (e_init100 (a := n + 1) (zf_le hz (by omega)) (by omega) (by rw [k1]) k2 (by omega)) ?_
    refine xb_eq (e_cdo (q3 (b := n + 1) (by omega) (by omega)) (by omega)) ?_
    refine xb_eq (e_sR (v := n + 1) (by omega) (by rw [k0]) (by omega)) ?_
    have z3 : zf (n + 1 + 1 + 1) I (va_up (va_up R (n + 1) (va_up (R (n + 1)) 0 (some (n + 1 + 1)))) n (va_up (va_up R (n + 1) (va_up (R (n + 1)) 0 (some (n + 1 + 1))) n) 0 (some (n + 1)))) := zf_R (zf_R (zf_le hz (by omega)) (by omega)) (by omega)
    refine xb_eq (e_nwO z3 k3 (q2 (by omega)) (by omega)) ?_
    refine xb_eq (e_init100 (a := n + 1 + 1 + 1) (zf_le z3 (by omega)) (by omega) (by rw [k3]) k4 (by omega)) ?_
    refine xb_eq (e_cdo (q3 (b := n + 1 + 1 + 1) (by omega) (by omega)) (by omega)) ?_
    refine xb_eq (e_sR (v := n + 1 + 1 + 1) (by omega) (by rw [k0]) (by omega)) ?_
    refine xb_eq (e_gR (v := n + 3) (by omega) (by rw [k0]) (by rw [va_up_self, va_up_self])) ?_
    refine xb_iq (me_xk (by omega) (by rw [k3])) ?_
    refine xb_eq (e_set1 (m := 100) (by omega) (by rw [k3]) k4 (by decide) (by decide) (by
      rw [va_up_ne _ _ (by omega : n + 3 ≠ n), va_up_self, va_up_self]) (hz _ (by omega)).1 (hz _ (by omega)).1) ?_
    refine xb_eq (e_cdo rfl (Nat.le_refl _)) ?_
    show some (n + 5, ct (n + 5), _, zJ, _) = some (n + 5, ct (n + 5), _, zJ, _)
    have eI : s1I I (n + 3) = frI I n := by
      funext x
      unfold s1I frI
      by_cases h : n ≤ x ∧ x < n + 5
      · rw [if_pos h]
        have hx : I x = fun _ => 0 := (hz x h.1).1
        rcases (by omega : x = n ∨ x = n + 1 ∨ x = n + 2 ∨ x = n + 3 ∨ x = n + 3 + 1) with q | q | q | q | q
        · rw [va_up_ne _ _ (by omega), va_up_ne _ _ (by omega), hx, show x - n = 0 by omega]; rfl
        · rw [va_up_ne _ _ (by omega), va_up_ne _ _ (by omega), hx, show x - n = 1 by omega]; rfl
        · rw [va_up_ne _ _ (by omega), va_up_ne _ _ (by omega), hx, show x - n = 2 by omega]; rfl
        · rw [va_up_ne _ _ (by omega), q, va_up_self, show n + 3 - n = 3 by omega]; rfl
        · rw [q, va_up_self, show n + 3 + 1 - n = 4 by omega]; rfl
      · rw [if_neg h, va_up_ne _ _ (by omega), va_up_ne _ _ (by omega)]
    have eR : va_up (va_up (va_up (va_up R (n + 1) (va_up (R (n + 1)) 0 (some (n + 1 + 1)))) n (va_up (va_up R (n + 1) (va_up (R (n + 1)) 0 (some (n + 1 + 1))) n) 0 (some (n + 1)))) (n + 1 + 1 + 1) (va_up (va_up (va_up R (n + 1) (va_up (R (n + 1)) 0 (some (n + 1 + 1)))) n (va_up (va_up R (n + 1) (va_up (R (n + 1)) 0 (some (n + 1 + 1))) n) 0 (some (n + 1))) (n + 1 + 1 + 1)) 0 (some (n + 1 + 1 + 1 + 1)))) n (va_up (va_up (va_up (va_up R (n + 1) (va_up (R (n + 1)) 0 (some (n + 1 + 1)))) n (va_up (va_up R (n + 1) (va_up (R (n + 1)) 0 (some (n + 1 + 1))) n) 0 (some (n + 1)))) (n + 1 + 1 + 1) (va_up (va_up (va_up R (n + 1) (va_up (R (n + 1)) 0 (some (n + 1 + 1)))) n (va_up (va_up R (n + 1) (va_up (R (n + 1)) 0 (some (n + 1 + 1))) n) 0 (some (n + 1))) (n + 1 + 1 + 1)) 0 (some (n + 1 + 1 + 1 + 1))) n) 1 (some (n + 1 + 1 + 1))) = frR R n := by
      have r0 := (hz n (Nat.le_refl _)).2
      have r1 := (hz (n + 1) (by omega)).2
      have r3 := (hz (n + 1 + 1 + 1) (by omega)).2
      funext x
      unfold frR
      by_cases h : n ≤ x ∧ x < n + 5
      · rw [if_pos h]
        have hx : R x = fun _ => none := (hz x h.1).2
        rcases (by omega : x = n ∨ x = n + 1 ∨ x = n + 2 ∨ x = n + 1 + 1 + 1 ∨ x = n + 3 + 1) with q | q | q | q | q
        · rw [q, va_up_self, va_up_ne _ _ (by omega), va_up_self, va_up_ne _ _ (by omega), r0, show n - n = 0 by omega]; rfl
        · rw [va_up_ne _ _ (by omega), va_up_ne _ _ (by omega), va_up_ne _ _ (by omega), q, va_up_self, r1, show n + 1 - n = 1 by omega]; rfl
        · rw [va_up_ne _ _ (by omega), va_up_ne _ _ (by omega), va_up_ne _ _ (by omega), va_up_ne _ _ (by omega), hx, show x - n = 2 by omega]; rfl
        · rw [va_up_ne _ _ (by omega), q, va_up_self, va_up_ne _ _ (by omega), va_up_ne _ _ (by omega), r3, show n + 1 + 1 + 1 - n = 3 by omega]; rfl
        · rw [va_up_ne _ _ (by omega), va_up_ne _ _ (by omega), va_up_ne _ _ (by omega), va_up_ne _ _ (by omega), hx, show x - n = 4 by omega]; rfl
      · rw [if_neg h, va_up_ne _ _ (by omega), va_up_ne _ _ (by omega), va_up_ne _ _ (by omega), va_up_ne _ _ (by omega)]
    rw [eI]
    exact congrArg (fun q => some (n + 5, ct (n + 5), frI I n, zJ, q)) eR
  exact xb_eq hi (xb_eq (e_cdo hr2 (by omega)) k)
/-! a Tree -/
def trR (R : Nat → Nat → Option Nat) (b : Nat) : Nat → Nat → Option Nat := va_up R b (fun k => if k < 7 then some (b + 1 + k) else none)
theorem zf_fr (h : zf n I R) : zf (n + 5) (frI I n) (frR R n) := fun x hx => ⟨by unfold frI; rw [if_neg (by omega)]; exact (h x (by omega)).1, by unfold frR; rw [if_neg (by omega)]; exact (h x (by omega)).2⟩
theorem e_tr {ρ : Type} {rs rs2 : List Nat} {K : xM → Option ρ} {r : Option ρ} (hz : zf n I R) (hn : n + 8 < 4562) (k0 : KK n = (9, 0)) (kj : ∀ j, j < 7 → KK (n + (j + 1)) = (14, 80)) (hr : rs.all (fun a => decide (a < n) || a == xkX) = true) (hr2 : rs2.all (fun a => decide (a < n + 1) || a == xkX) = true) (k : K (me (n + 8) I (trR R n)) = r) : (nwO (me n I R) 9 rs).bind (fun σ1 => (f_X9_init σ1 n).bind (fun τ => (cdo σ1 τ rs2).bind K)) = r := by
  refine xb_eq (e_nwO hz k0 hr (by omega)) ?_
  have q2 : ∀ {m : Nat}, n < m → ([n, n] : List Nat).all (fun a => decide (a < m) || a == xkX) = true := fun h => by simp [h]
  have hi : f_X9_init (me (n + 1) I R) n = some (me (n + 8) I (trR R n)) := by
    unfold f_X9_init
    have up2 : ∀ (R : Nat → Nat → Option Nat) (f : Nat → Option Nat) (k v : Nat), va_up (va_up R n f) n (va_up (va_up R n f n) k (some v)) = va_up R n (va_up f k (some v)) := fun R f k v => by rw [up_up, va_up_self]
    refine xb_eq (e_nwA (zf_le hz (by omega)) (kj 0 (by omega)) rfl (q2 (by omega)) (by omega)) ?_
    refine xb_eq (e_sR (v := n + 1) (by omega) (by rw [k0]) (by omega)) ?_
    refine xb_eq (e_nwA (zf_R (zf_le hz (by omega)) (by omega)) (kj 1 (by omega)) rfl (q2 (by omega)) (by omega)) ?_
    refine xb_eq (e_sR (v := n + 1 + 1) (by omega) (by rw [k0]) (by omega)) ?_
    rw [up2]
    refine xb_eq (e_nwA (zf_R (zf_le hz (by omega)) (by omega)) (kj 2 (by omega)) rfl (q2 (by omega)) (by omega)) ?_
    refine xb_eq (e_sR (v := n + 1 + 1 + 1) (by omega) (by rw [k0]) (by omega)) ?_
    rw [up2]
    refine xb_eq (e_nwA (zf_R (zf_le hz (by omega)) (by omega)) (kj 3 (by omega)) rfl (q2 (by omega)) (by omega)) ?_
    refine xb_eq (e_sR (v := n + 1 + 1 + 1 + 1) (by omega) (by rw [k0]) (by omega)) ?_
    rw [up2]
    refine xb_eq (e_nwA (zf_R (zf_le hz (by omega)) (by omega)) (kj 4 (by omega)) rfl (q2 (by omega)) (by omega)) ?_
    refine xb_eq (e_sR (v := n + 1 + 1 + 1 + 1 + 1) (by omega) (by rw [k0]) (by omega)) ?_
    rw [up2]
    refine xb_eq (e_nwA (zf_R (zf_le hz (by omega)) (by omega)) (kj 5 (by omega)) rfl (q2 (by omega)) (by omega)) ?_
    refine xb_eq (e_sR (v := n + 1 + 1 + 1 + 1 + 1 + 1) (by omega) (by rw [k0]) (by omega)) ?_
    rw [up2]
    refine xb_eq (e_nwA (zf_R (zf_le hz (by omega)) (by omega)) (kj 6 (by omega)) rfl (q2 (by omega)) (by omega)) ?_
    refine xb_eq (e_sR (v := n + 1 + 1 + 1 + 1 + 1 + 1 + 1) (by omega) (by rw [k0]) (by omega)) ?_
    rw [up2]
    show some (n + 8, ct (n + 8), I, zJ, _) = some (n + 8, ct (n + 8), I, zJ, _)
    refine congrArg (fun q => some (n + 8, ct (n + 8), I, zJ, q)) ?_
    unfold trR
    refine congrArg (fun q => va_up R n q) ?_
    rw [(hz n (Nat.le_refl _)).2]
    funext k
    rcases (by omega : k = 0 ∨ k = 1 ∨ k = 2 ∨ k = 3 ∨ k = 4 ∨ k = 5 ∨ k = 6 ∨ 7 ≤ k) with rfl | rfl | rfl | rfl | rfl | rfl | rfl | q
    · rfl
    · rfl
    · rfl
    · rfl
    · rfl
    · rfl
    · rfl
    · rw [if_neg (by omega)]
      unfold va_up
      rw [if_neg (by omega), if_neg (by omega), if_neg (by omega), if_neg (by omega), if_neg (by omega), if_neg (by omega), if_neg (by omega)]
  exact xb_eq hi (xb_eq (e_cdo hr2 (by omega)) k)
theorem zf_tr (h : zf n I R) : zf (n + 8) I (trR R n) := zf_R (zf_le h (by omega)) (by omega)
theorem zf_wh (h : zf n I R) : zf (n + 2) I (whR R n) := zf_R (zf_le h (by omega)) (by omega)
theorem e_wh7 {ρ : Type} {rs rs2 : List Nat} {K : xM → Option ρ} {r : Option ρ} (hz : zf n I R) (hn : n + 2 < 4562) (k0 : KK n = (10, 0)) (k1 : KK (n + 1) = (14, 7)) (hr : rs.all (fun a => decide (a < n) || a == xkX) = true) (hr2 : rs2.all (fun a => decide (a < n + 1) || a == xkX) = true) (k : K (me (n + 2) I (whR R n)) = r) : (nwO (me n I R) 10 rs).bind (fun σ1 => (f_X10_init7 σ1 n).bind (fun τ => (cdo σ1 τ rs2).bind K)) = r :=
  xb_eq (e_nwO hz k0 hr (by omega)) (xb_eq (e_init7 (zf_le hz (by omega)) (by omega) (by rw [k0]) k1 (by omega)) (xb_eq (e_cdo hr2 (by omega)) k))
theorem e_wh100 {ρ : Type} {rs rs2 : List Nat} {K : xM → Option ρ} {r : Option ρ} (hz : zf n I R) (hn : n + 2 < 4562) (k0 : KK n = (10, 0)) (k1 : KK (n + 1) = (14, 100)) (hr : rs.all (fun a => decide (a < n) || a == xkX) = true) (hr2 : rs2.all (fun a => decide (a < n + 1) || a == xkX) = true) (k : K (me (n + 2) I (whR R n)) = r) : (nwO (me n I R) 10 rs).bind (fun σ1 => (f_X10_init100 σ1 n).bind (fun τ => (cdo σ1 τ rs2).bind K)) = r :=
  xb_eq (e_nwO hz k0 hr (by omega)) (xb_eq (e_init100 (zf_le hz (by omega)) (by omega) (by rw [k0]) k1 (by omega)) (xb_eq (e_cdo hr2 (by omega)) k))
end EF
theorem i32_ofs (k : Nat) : Int32.ofNat k + 1 = Int32.ofNat (k + 1) := (Int32.ofNat_add k 1).symm
/-! rows of fractions, of trees -/
def lbI (I : Nat → Nat → Int32) (B N : Nat) : Nat → Nat → Int32 := fun x => if B ≤ x ∧ x < B + 5 * N then fpI ((x - B) % 5) else I x
def lbR (R : Nat → Nat → Option Nat) (arr B N : Nat) : Nat → Nat → Option Nat := fun x => if x = arr then (fun k => if k < N then some (B + 5 * k) else R arr k) else if B ≤ x ∧ x < B + 5 * N then fpR (x - (x - B) % 5) ((x - B) % 5) else R x
theorem lbI_s {I : Nat → Nat → Int32} {B N : Nat} : frI (lbI I B N) (B + 5 * N) = lbI I B (N + 1) := by
  funext x
  unfold frI lbI
  by_cases h : B + 5 * N ≤ x ∧ x < B + 5 * N + 5
  · rw [if_pos h, if_pos (by omega), show (x - B) % 5 = x - (B + 5 * N) by omega]
  · rw [if_neg h]
    by_cases h2 : B ≤ x ∧ x < B + 5 * N
    · rw [if_pos h2, if_pos (by omega)]
    · rw [if_neg h2, if_neg (by omega)]
theorem lbR_s {R : Nat → Nat → Option Nat} {arr B N : Nat} (ha : arr < B) : va_up (frR (lbR R arr B N) (B + 5 * N)) arr (va_up (frR (lbR R arr B N) (B + 5 * N) arr) N (some (B + 5 * N))) = lbR R arr B (N + 1) := by
  funext x
  have e : frR (lbR R arr B N) (B + 5 * N) arr = fun k => if k < N then some (B + 5 * k) else R arr k := by
    unfold frR lbR
    rw [if_neg (by omega), if_pos rfl]
  rw [e]
  unfold va_up frR lbR
  by_cases h0 : x = arr
  · rw [if_pos h0, if_pos h0]
    funext k
    by_cases h : k = N
    · rw [if_pos h, if_pos (by omega), h]
    · rw [if_neg h]
      dsimp only
      by_cases h1 : k < N
      · rw [if_pos h1, if_pos (by omega)]
      · rw [if_neg h1, if_neg (by omega)]
  · simp only [if_neg h0]
    by_cases h : B + 5 * N ≤ x ∧ x < B + 5 * N + 5
    · rw [if_pos h, if_pos (by omega), show (x - B) % 5 = x - (B + 5 * N) by omega, show x - (x - (B + 5 * N)) = B + 5 * N by omega]
    · rw [if_neg h]
      by_cases h2 : B ≤ x ∧ x < B + 5 * N
      · rw [if_pos h2, if_pos (by omega)]
      · rw [if_neg h2, if_neg (by omega)]
theorem e_loopF {g : Int32 → xM → Option xM} {I : Nat → Nat → Int32} {R : Nat → Nat → Option Nat} {l0 f arr B T : Nat} (hz : zf B I R) (h0 : l0 < B) (hne : l0 ≠ arr) (ha : arr < B) (hR : R l0 f = some arr)
    (hs : ∀ i I R, i < T → zf (B + 5 * i) I R → R l0 f = some arr → g (Int32.ofNat i) (me (B + 5 * i) I R) = some (me (B + 5 * i + 5) (frI I (B + 5 * i)) (va_up (frR R (B + 5 * i)) arr (va_up (frR R (B + 5 * i) arr) i (some (B + 5 * i)))))) :
    xrep g T 0 (me B I R) = some (me (B + 5 * T) (lbI I B T) (lbR R arr B T)) := by
  have : ∀ k i, i + k = T → xrep g k (Int32.ofNat i) (me (B + 5 * i) (lbI I B i) (lbR R arr B i)) = some (me (B + 5 * T) (lbI I B T) (lbR R arr B T)) := by
    intro k
    induction k with
    | zero =>
      intro i hi
      have : i = T := by omega
      subst this
      rfl
    | succ k ih =>
      intro i hi
      have zz : zf (B + 5 * i) (lbI I B i) (lbR R arr B i) := fun x hx => ⟨by
        unfold lbI
        rw [if_neg (by omega)]
        exact (hz x (by omega)).1, by
        unfold lbR
        rw [if_neg (by omega), if_neg (by omega)]
        exact (hz x (by omega)).2⟩
      refine xb_eq (hs i _ _ (by omega) zz (by
        unfold lbR
        rw [if_neg hne, if_neg (by omega)]
        exact hR)) ?_
      rw [lbI_s, lbR_s ha, i32_ofs]
      exact ih (i + 1) (by omega)
  have e1 : lbI I B 0 = I := by
    funext x
    unfold lbI
    rw [if_neg (by omega)]
  have e2 : lbR R arr B 0 = R := by
    funext x
    unfold lbR
    by_cases h : x = arr
    · rw [if_pos h, h]
      rfl
    · rw [if_neg h, if_neg (by omega)]
  have := this T 0 (by omega)
  rw [e1, e2] at this
  exact this
def lbT (R : Nat → Nat → Option Nat) (arr B N : Nat) : Nat → Nat → Option Nat := fun x => if x = arr then (fun k => if k < N then some (B + 8 * k) else R arr k) else if B ≤ x ∧ x < B + 8 * N ∧ (x - B) % 8 = 0 then (fun k => if k < 7 then some (x + 1 + k) else none) else R x
theorem lbT_s {R : Nat → Nat → Option Nat} {arr B N : Nat} (ha : arr < B) : va_up (trR (lbT R arr B N) (B + 8 * N)) arr (va_up (trR (lbT R arr B N) (B + 8 * N) arr) N (some (B + 8 * N))) = lbT R arr B (N + 1) := by
  funext x
  have e : trR (lbT R arr B N) (B + 8 * N) arr = fun k => if k < N then some (B + 8 * k) else R arr k := by
    unfold trR lbT
    rw [va_up_ne _ _ (by omega), if_pos rfl]
  rw [e]
  unfold va_up trR lbT
  by_cases h0 : x = arr
  · rw [if_pos h0, if_pos h0]
    funext k
    by_cases h : k = N
    · rw [if_pos h, if_pos (by omega), h]
    · rw [if_neg h]
      dsimp only
      by_cases h1 : k < N
      · rw [if_pos h1, if_pos (by omega)]
      · rw [if_neg h1, if_neg (by omega)]
  · simp only [if_neg h0, va_up]
    by_cases h : x = B + 8 * N
    · rw [if_pos h, if_pos (by omega), h]
    · rw [if_neg h]
      by_cases h2 : B ≤ x ∧ x < B + 8 * N ∧ (x - B) % 8 = 0
      · rw [if_pos h2, if_pos (by omega)]
      · rw [if_neg h2, if_neg (by omega)]
theorem e_loopT {g : Int32 → xM → Option xM} {I : Nat → Nat → Int32} {R : Nat → Nat → Option Nat} {l0 f arr B T : Nat} (hz : zf B I R) (h0 : l0 < B) (hne : l0 ≠ arr) (ha : arr < B) (hR : R l0 f = some arr)
    (hs : ∀ i R, i < T → zf (B + 8 * i) I R → R l0 f = some arr → g (Int32.ofNat i) (me (B + 8 * i) I R) = some (me (B + 8 * i + 8) I (va_up (trR R (B + 8 * i)) arr (va_up (trR R (B + 8 * i) arr) i (some (B + 8 * i)))))) :
    xrep g T 0 (me B I R) = some (me (B + 8 * T) I (lbT R arr B T)) := by
  have : ∀ k i, i + k = T → xrep g k (Int32.ofNat i) (me (B + 8 * i) I (lbT R arr B i)) = some (me (B + 8 * T) I (lbT R arr B T)) := by
    intro k
    induction k with
    | zero =>
      intro i hi
      have : i = T := by omega
      subst this
      rfl
    | succ k ih =>
      intro i hi
      have zz : zf (B + 8 * i) I (lbT R arr B i) := fun x hx => ⟨(hz x (by omega)).1, by
        unfold lbT
        rw [if_neg (by omega), if_neg (by omega)]
        exact (hz x (by omega)).2⟩
      refine xb_eq (hs i _ (by omega) zz (by
        unfold lbT
        rw [if_neg hne, if_neg (by omega)]
        exact hR)) ?_
      rw [lbT_s ha, i32_ofs]
      exact ih (i + 1) (by omega)
  have e2 : lbT R arr B 0 = R := by
    funext x
    unfold lbT
    by_cases h : x = arr
    · rw [if_pos h, h]
      rfl
    · rw [if_neg h, if_neg (by omega)]
  have := this T 0 (by omega)
  rw [e2] at this
  exact this
theorem zf_lF {I : Nat → Nat → Int32} {R : Nat → Nat → Option Nat} {arr B T : Nat} (h : zf B I R) (ha : arr < B) : zf (B + 5 * T) (lbI I B T) (lbR R arr B T) := fun x hx => ⟨by
        unfold lbI
        rw [if_neg (by omega)]
        exact (h x (by omega)).1, by
        unfold lbR
        rw [if_neg (by omega), if_neg (by omega)]
        exact (h x (by omega)).2⟩
theorem zf_lT {I : Nat → Nat → Int32} {R : Nat → Nat → Option Nat} {arr B T : Nat} (h : zf B I R) (ha : arr < B) : zf (B + 8 * T) I (lbT R arr B T) := fun x hx => ⟨(h x (by omega)).1, by
        unfold lbT
        rw [if_neg (by omega), if_neg (by omega)]
        exact (h x (by omega)).2⟩
/-! the desk's tables -/
def plc : Nat → Int32 := fun k => if k < 128 then xIx (Int32.ofNat k) else 0
def bgI (I : Nat → Nat → Int32) (s : Nat) (rk sd mn : Int32) : Nat → Nat → Int32 := va_up (va_up (va_up I 13 (va_up (I 13) s rk)) 14 (va_up (I 14) s sd)) 15 (va_up (I 15) s mn)
theorem zf_bg {n s : Nat} {rk sd mn : Int32} {I : Nat → Nat → Int32} {R : Nat → Nat → Option Nat} (hn : 16 ≤ n) (h : zf n I R) : zf n (bgI I s rk sd mn) R := zf_I (zf_I (zf_I h (by omega)) (by omega)) (by omega)
theorem i32_nlt0 {k : Nat} (h : k < 2147483648) : ¬ (Int32.ofNat k < 0) := by
  rw [Int32.lt_iff_toInt_lt, Int32.toInt_ofNat_of_lt (by simpa using h)]
  simp
theorem i32_le {k m : Nat} (h : k < 2147483648) (h' : m < 2147483648) : Int32.ofNat k ≤ Int32.ofNat m ↔ k ≤ m := by
  rw [Int32.le_iff_toInt_le, Int32.toInt_ofNat_of_lt (by simpa using h), Int32.toInt_ofNat_of_lt (by simpa using h')]
  omega
section EB
variable {n : Nat} {I : Nat → Nat → Int32} {J : Nat → Nat → Int64} {R : Nat → Nat → Option Nat}
theorem e_slot {c fx p : Nat} (hn : 16 ≤ n) (h0 : R 11 0 = some 12) (hI : I 12 = plc) (hc : c < 128) (hp : plc c = Int32.ofNat p) (hp2 : p < 16) (hf : fx ≤ 2) : f_X1_slot (mg n I J R) 11 (Int32.ofNat c) (Int32.ofNat fx) = some (Int32.ofNat (fx * 16 + p)) := by
  unfold f_X1_slot
  rw [if_neg (i32_nlt0 (by omega))]
  refine xb_eq (e_gR (by omega) rfl h0) (xb_eq (e_gL (len := 128) (by omega) rfl) ?_)
  rw [if_neg (by rw [i32_le (by omega) (by omega)]; omega)]
  refine xb_eq (e_gR (by omega) rfl h0) (xb_eq (e_aI (len := 128) (by omega) rfl hc (by decide)) ?_)
  rw [hI, hp]
  unfold f_X1_slot_j23
  rw [if_neg (i32_nlt0 (by omega)), if_neg (i32_nlt0 (by omega)), if_pos (show Int32.ofNat fx ≤ 2 from (i32_le (m := 2) (by omega) (by omega)).mpr hf)]
  unfold f_X1_slot_j47
  rw [Int32.ofNat_add, Int32.ofNat_mul]
  rfl
theorem e_putOperator {s : Nat} {rk sd mn : Int32} (hn : 16 ≤ n) (h1 : R 11 1 = some 13) (h2 : R 11 2 = some 14) (h3 : R 11 3 = some 15) (hs : s < 48) : f_X1_putOperator (mg n I J R) 11 (Int32.ofNat s) rk sd mn = some (mg n (bgI I s rk sd mn) J R) := by
  unfold f_X1_putOperator
  rw [if_neg (i32_nlt0 (by omega))]
  refine xb_eq (e_gR (by omega) rfl h1) (xb_eq (e_gL (len := 48) (by omega) rfl) ?_)
  rw [if_neg (by rw [i32_le (by omega) (by omega)]; omega)]
  refine xb_eq (e_gR (by omega) rfl h1) (xb_eq (e_wI (len := 48) (by omega) rfl hs (by decide)) ?_)
  refine xb_eq (e_gR (by omega) rfl h2) (xb_eq (e_wI (len := 48) (by omega) rfl hs (by decide)) ?_)
  refine xb_eq (e_gR (by omega) rfl h3) (xb_eq (e_wI (len := 48) (by omega) rfl hs (by decide)) ?_)
  rfl
theorem e_begin {rk sd mn : Int32} (c fx p : Nat) (hn : 16 ≤ n) (h0 : R 11 0 = some 12) (h1 : R 11 1 = some 13) (h2 : R 11 2 = some 14) (h3 : R 11 3 = some 15) (hI : I 12 = plc) (hc : c < 128) (hp : plc c = Int32.ofNat p) (hp2 : p < 16) (hf : fx ≤ 2) : f_X1_begin (mg n I J R) 11 (Int32.ofNat c) (Int32.ofNat fx) rk sd mn = some (mg n (bgI I (fx * 16 + p) rk sd mn) J R) := by
  unfold f_X1_begin
  refine xb_iq (me_xk (by omega) rfl) (xb_eq (e_slot hn h0 hI hc hp hp2 hf) (xb_iq (me_xk (by omega) rfl) (xb_eq (e_putOperator hn h1 h2 h3 (by omega)) rfl)))
theorem i32_chr : ∀ k, k < 128 → ((Int32.ofNat k).toUInt32 % 65536).toInt32 = Int32.ofNat k := by decide +kernel
theorem e_places (hn : 16 ≤ n) (h0 : R 11 0 = some 12) (hI : I 12 = fun _ => 0) : xloop f_X1_beginOperators_s2 xF (11, 0, mg n I J R) = some (.inr (11, mg n (va_up I 12 plc) J R)) := by
  have q := xl_seq (step := f_X1_beginOperators_s2) (s := fun i => (11, Int32.ofNat i, mg n (va_up I 12 (fun k => if k < i then xIx (Int32.ofNat k) else 0)) J R)) (N := 128) (e := .inr (11, mg n (va_up I 12 plc) J R)) ?_ ?_ (f := xF) (by decide)
  · have e0 : va_up I 12 (fun k => if k < 0 then xIx (Int32.ofNat k) else 0) = I := up_id hI
    have q' : xloop f_X1_beginOperators_s2 xF (11, Int32.ofNat 0, mg n (va_up I 12 (fun k => if k < 0 then xIx (Int32.ofNat k) else 0)) J R) = _ := q
    rw [e0] at q'
    exact q'
  · intro i hi
    show f_X1_beginOperators_s2 (11, Int32.ofNat i, _) = _
    unfold f_X1_beginOperators_s2 xlet
    refine xb_eq (e_gR (by omega) rfl h0) (xb_eq (e_gL (len := 128) (by omega) rfl) ?_)
    rw [if_neg (by rw [i32_le (by omega) (by omega)]; omega)]
    refine xb_eq (e_gR (by omega) rfl h0) (xb_eq (e_wI (len := 128) (by omega) rfl hi (by decide)) ?_)
    rw [i32_chr i hi, i32_ofs, up_up, va_up_self]
    have : va_up (fun k => if k < i then xIx (Int32.ofNat k) else 0) i (xIx (Int32.ofNat i)) = fun k => if k < i + 1 then xIx (Int32.ofNat k) else 0 := by
      funext k
      unfold va_up
      by_cases h : k = i
      · rw [if_pos h, if_pos (by omega), h]
      · rw [if_neg h]
        dsimp only
        by_cases h1 : k < i
        · rw [if_pos h1, if_pos (by omega)]
        · rw [if_neg h1, if_neg (by omega)]
    rw [this]
  · show f_X1_beginOperators_s2 (11, Int32.ofNat 128, _) = _
    unfold f_X1_beginOperators_s2 xlet
    refine xb_eq (e_gR (by omega) rfl h0) (xb_eq (e_gL (len := 128) (by omega) rfl) ?_)
    rw [if_pos ((i32_le (by omega) (by omega)).mpr (by omega))]
    rfl
def boI (I : Nat → Nat → Int32) : Nat → Nat → Int32 := (bgI (bgI (bgI (bgI (bgI (bgI (bgI (bgI (bgI (bgI (bgI (bgI (bgI (bgI (va_up I 12 plc) 46 1 0 10) 35 2 0 9) 40 3 2 6) 41 3 2 7) 42 3 2 8) 37 4 0 0) 38 4 0 1) 36 5 0 2) 39 5 0 3) 34 5 0 4) 45 7 1 5) 6 6 0 11) 15 6 0 12) 16 8 0 13)
theorem zf_bo (hn : 16 ≤ n) (h : zf n I R) : zf n (boI I) R := (zf_bg hn (zf_bg hn (zf_bg hn (zf_bg hn (zf_bg hn (zf_bg hn (zf_bg hn (zf_bg hn (zf_bg hn (zf_bg hn (zf_bg hn (zf_bg hn (zf_bg hn (zf_bg hn (zf_I h (by omega))))))))))))))))
theorem e_beginOperators (hn : 16 ≤ n) (h0 : R 11 0 = some 12) (h1 : R 11 1 = some 13) (h2 : R 11 2 = some 14) (h3 : R 11 3 = some 15) (hI : I 12 = fun _ => 0) : f_X1_beginOperators (mg n I J R) 11 = some (mg n (boI I) J R) := by
  unfold f_X1_beginOperators xlet
  refine xb_eq (e_places hn h0 hI) ?_
  show f_X1_beginOperators_j30 (mg n (va_up I 12 plc) J R) 11 = _
  unfold f_X1_beginOperators_j30
  refine xb_iq (me_xk (by omega) rfl) (xb_eq (e_begin 124 2 14 hn h0 h1 h2 h3 rfl (by decide) (by decide +kernel) (by decide) (by decide)) ?_)
  refine xb_iq (me_xk (by omega) rfl) (xb_eq (e_begin 38 2 3 hn h0 h1 h2 h3 rfl (by decide) (by decide +kernel) (by decide) (by decide)) ?_)
  refine xb_iq (me_xk (by omega) rfl) (xb_eq (e_begin 60 2 8 hn h0 h1 h2 h3 rfl (by decide) (by decide +kernel) (by decide) (by decide)) ?_)
  refine xb_iq (me_xk (by omega) rfl) (xb_eq (e_begin 61 2 9 hn h0 h1 h2 h3 rfl (by decide) (by decide +kernel) (by decide) (by decide)) ?_)
  refine xb_iq (me_xk (by omega) rfl) (xb_eq (e_begin 62 2 10 hn h0 h1 h2 h3 rfl (by decide) (by decide +kernel) (by decide) (by decide)) ?_)
  refine xb_iq (me_xk (by omega) rfl) (xb_eq (e_begin 43 2 5 hn h0 h1 h2 h3 rfl (by decide) (by decide +kernel) (by decide) (by decide)) ?_)
  refine xb_iq (me_xk (by omega) rfl) (xb_eq (e_begin 45 2 6 hn h0 h1 h2 h3 rfl (by decide) (by decide +kernel) (by decide) (by decide)) ?_)
  refine xb_iq (me_xk (by omega) rfl) (xb_eq (e_begin 42 2 4 hn h0 h1 h2 h3 rfl (by decide) (by decide +kernel) (by decide) (by decide)) ?_)
  refine xb_iq (me_xk (by omega) rfl) (xb_eq (e_begin 47 2 7 hn h0 h1 h2 h3 rfl (by decide) (by decide +kernel) (by decide) (by decide)) ?_)
  refine xb_iq (me_xk (by omega) rfl) (xb_eq (e_begin 37 2 2 hn h0 h1 h2 h3 rfl (by decide) (by decide +kernel) (by decide) (by decide)) ?_)
  refine xb_iq (me_xk (by omega) rfl) (xb_eq (e_begin 94 2 13 hn h0 h1 h2 h3 rfl (by decide) (by decide +kernel) (by decide) (by decide)) ?_)
  refine xb_iq (me_xk (by omega) rfl) (xb_eq (e_begin 45 0 6 hn h0 h1 h2 h3 rfl (by decide) (by decide +kernel) (by decide) (by decide)) ?_)
  refine xb_iq (me_xk (by omega) rfl) (xb_eq (e_begin 126 0 15 hn h0 h1 h2 h3 rfl (by decide) (by decide +kernel) (by decide) (by decide)) ?_)
  refine xb_iq (me_xk (by omega) rfl) (xb_eq (e_begin 33 1 0 hn h0 h1 h2 h3 rfl (by decide) (by decide +kernel) (by decide) (by decide)) ?_)
  rfl
end EB
def Ik_0 : Nat → Nat → Int32 := fun _ _ => 0
def Rk_0 : Nat → Nat → Option Nat := fun _ _ => none
theorem hz_0_0_0 : zf 0 Ik_0 Rk_0 := fun _ _ => ⟨rfl, rfl⟩
theorem hz_1_0_0 : zf 1 Ik_0 Rk_0 := zf_le hz_0_0_0 (by decide)
theorem hz_2_0_0 : zf 2 Ik_0 Rk_0 := zf_le hz_1_0_0 (by decide)
def Rk_1 : Nat → Nat → Option Nat := whR Rk_0 2
theorem hz_4_0_1 : zf 4 Ik_0 Rk_1 := zf_wh hz_2_0_0
def Rk_2 : Nat → Nat → Option Nat := va_up Rk_1 1 (va_up (Rk_1 1) 0 (some 2))
theorem hz_4_0_2 : zf 4 Ik_0 Rk_2 := zf_R hz_4_0_1 (by decide)
def Rk_3 : Nat → Nat → Option Nat := whR Rk_2 4
theorem hz_6_0_3 : zf 6 Ik_0 Rk_3 := zf_wh hz_4_0_2
def Rk_4 : Nat → Nat → Option Nat := va_up Rk_3 1 (va_up (Rk_3 1) 1 (some 4))
theorem hz_6_0_4 : zf 6 Ik_0 Rk_4 := zf_R hz_6_0_3 (by decide)
def Rk_5 : Nat → Nat → Option Nat := whR Rk_4 6
theorem hz_8_0_5 : zf 8 Ik_0 Rk_5 := zf_wh hz_6_0_4
def Rk_6 : Nat → Nat → Option Nat := va_up Rk_5 1 (va_up (Rk_5 1) 2 (some 6))
theorem hz_8_0_6 : zf 8 Ik_0 Rk_6 := zf_R hz_8_0_5 (by decide)
def Rk_7 : Nat → Nat → Option Nat := whR Rk_6 8
theorem hz_10_0_7 : zf 10 Ik_0 Rk_7 := zf_wh hz_8_0_6
def Rk_8 : Nat → Nat → Option Nat := va_up Rk_7 1 (va_up (Rk_7 1) 3 (some 8))
theorem hz_10_0_8 : zf 10 Ik_0 Rk_8 := zf_R hz_10_0_7 (by decide)
theorem C_X0_init_1 : f_X0_init (me 2 Ik_0 Rk_0) 1 = some (me 10 Ik_0 Rk_8) := by
  unfold f_X0_init
  refine e_wh100 (n := 2) hz_2_0_0 (by decide) rfl rfl rfl rfl ?_
  refine xb_eq (a := (me 4 Ik_0 Rk_2)) (e_sR (by decide) rfl (by decide)) ?_
  refine e_wh100 (n := 4) hz_4_0_2 (by decide) rfl rfl rfl rfl ?_
  refine xb_eq (a := (me 6 Ik_0 Rk_4)) (e_sR (by decide) rfl (by decide)) ?_
  refine e_wh100 (n := 6) hz_6_0_4 (by decide) rfl rfl rfl rfl ?_
  refine xb_eq (a := (me 8 Ik_0 Rk_6)) (e_sR (by decide) rfl (by decide)) ?_
  refine e_wh100 (n := 8) hz_8_0_6 (by decide) rfl rfl rfl rfl ?_
  refine xb_eq (a := (me 10 Ik_0 Rk_8)) (e_sR (by decide) rfl (by decide)) ?_
  rfl
theorem hz_11_0_8 : zf 11 Ik_0 Rk_8 := zf_le hz_10_0_8 (by decide)
def Rk_9 : Nat → Nat → Option Nat := va_up Rk_8 0 (va_up (Rk_8 0) 0 (some 10))
theorem hz_11_0_9 : zf 11 Ik_0 Rk_9 := zf_R hz_11_0_8 (by decide)
theorem hz_12_0_9 : zf 12 Ik_0 Rk_9 := zf_le hz_11_0_9 (by decide)
theorem hz_13_0_9 : zf 13 Ik_0 Rk_9 := zf_le hz_12_0_9 (by decide)
def Rk_10 : Nat → Nat → Option Nat := va_up Rk_9 11 (va_up (Rk_9 11) 0 (some 12))
theorem hz_13_0_10 : zf 13 Ik_0 Rk_10 := zf_R hz_13_0_9 (by decide)
theorem hz_14_0_10 : zf 14 Ik_0 Rk_10 := zf_le hz_13_0_10 (by decide)
def Rk_11 : Nat → Nat → Option Nat := va_up Rk_10 11 (va_up (Rk_10 11) 1 (some 13))
theorem hz_14_0_11 : zf 14 Ik_0 Rk_11 := zf_R hz_14_0_10 (by decide)
theorem hz_15_0_11 : zf 15 Ik_0 Rk_11 := zf_le hz_14_0_11 (by decide)
def Rk_12 : Nat → Nat → Option Nat := va_up Rk_11 11 (va_up (Rk_11 11) 2 (some 14))
theorem hz_15_0_12 : zf 15 Ik_0 Rk_12 := zf_R hz_15_0_11 (by decide)
theorem hz_16_0_12 : zf 16 Ik_0 Rk_12 := zf_le hz_15_0_12 (by decide)
def Rk_13 : Nat → Nat → Option Nat := va_up Rk_12 11 (va_up (Rk_12 11) 3 (some 15))
theorem hz_16_0_13 : zf 16 Ik_0 Rk_13 := zf_R hz_16_0_12 (by decide)
theorem hz_17_0_13 : zf 17 Ik_0 Rk_13 := zf_le hz_16_0_13 (by decide)
def Rk_14 : Nat → Nat → Option Nat := va_up Rk_13 11 (va_up (Rk_13 11) 4 (some 16))
theorem hz_17_0_14 : zf 17 Ik_0 Rk_14 := zf_R hz_17_0_13 (by decide)
theorem hz_18_0_14 : zf 18 Ik_0 Rk_14 := zf_le hz_17_0_14 (by decide)
def Rk_15 : Nat → Nat → Option Nat := va_up Rk_14 11 (va_up (Rk_14 11) 6 (some 17))
theorem hz_18_0_15 : zf 18 Ik_0 Rk_15 := zf_R hz_18_0_14 (by decide)
theorem hz_19_0_15 : zf 19 Ik_0 Rk_15 := zf_le hz_18_0_15 (by decide)
def Rk_16 : Nat → Nat → Option Nat := va_up Rk_15 11 (va_up (Rk_15 11) 7 (some 18))
theorem hz_19_0_16 : zf 19 Ik_0 Rk_16 := zf_R hz_19_0_15 (by decide)
def Rk_17 : Nat → Nat → Option Nat := va_up Rk_16 19 (fun i => if i < 26 then some (19 + (1 + i)) else none)
theorem hz_46_0_17 : zf 46 Ik_0 Rk_17 := zf_le (zf_R (zf_le hz_19_0_16 (by decide) : zf 20 _ _) (by decide)) (by decide)
def Rk_18 : Nat → Nat → Option Nat := va_up Rk_17 11 (va_up (Rk_17 11) 8 (some 19))
theorem hz_46_0_18 : zf 46 Ik_0 Rk_18 := zf_R hz_46_0_17 (by decide)
theorem hz_47_0_18 : zf 47 Ik_0 Rk_18 := zf_le hz_46_0_18 (by decide)
def Rk_19 : Nat → Nat → Option Nat := va_up Rk_18 11 (va_up (Rk_18 11) 9 (some 46))
theorem hz_47_0_19 : zf 47 Ik_0 Rk_19 := zf_R hz_47_0_18 (by decide)
theorem hz_48_0_19 : zf 48 Ik_0 Rk_19 := zf_le hz_47_0_19 (by decide)
def Rk_20 : Nat → Nat → Option Nat := va_up Rk_19 11 (va_up (Rk_19 11) 10 (some 47))
theorem hz_48_0_20 : zf 48 Ik_0 Rk_20 := zf_R hz_48_0_19 (by decide)
def Rk_21 : Nat → Nat → Option Nat := va_up Rk_20 48 (fun i => if i < 20 then some (48 + (1 + i)) else none)
theorem hz_69_0_21 : zf 69 Ik_0 Rk_21 := zf_le (zf_R (zf_le hz_48_0_20 (by decide) : zf 49 _ _) (by decide)) (by decide)
def Rk_22 : Nat → Nat → Option Nat := va_up Rk_21 11 (va_up (Rk_21 11) 11 (some 48))
theorem hz_69_0_22 : zf 69 Ik_0 Rk_22 := zf_R hz_69_0_21 (by decide)
theorem hz_70_0_22 : zf 70 Ik_0 Rk_22 := zf_le hz_69_0_22 (by decide)
def Rk_23 : Nat → Nat → Option Nat := va_up Rk_22 11 (va_up (Rk_22 11) 12 (some 69))
theorem hz_70_0_23 : zf 70 Ik_0 Rk_23 := zf_R hz_70_0_22 (by decide)
def Ik_1 : Nat → Nat → Int32 := boI Ik_0
theorem hz_70_1_23 : zf 70 Ik_1 Rk_23 := zf_bo (by decide) hz_70_0_23
def Rk_24 : Nat → Nat → Option Nat := lbT Rk_23 16 70 30
theorem hz_310_1_24 : zf 310 Ik_1 Rk_24 := zf_lT (arr := 16) (T := 30) hz_70_1_23 (by decide)
theorem KF_70_0 (i : Nat) (hi : i < 30) : KK (70 + 8 * i) = (9, 0) := by
  unfold KK
  rw [if_pos (by omega), if_pos (by omega), if_neg (by omega), if_pos (by omega), if_neg (by omega), if_pos (by omega), if_pos (by omega), if_pos (by omega)]
theorem KF_70_1 (i j : Nat) (hi : i < 30) (h2 : j < 7) : KK (70 + 8 * i + (j + 1)) = (14, 80) := by
  unfold KK
  rw [if_pos (by omega), if_pos (by omega), if_neg (by omega), if_pos (by omega), if_neg (by omega), if_pos (by omega), if_pos (by omega), if_neg (by omega)]
theorem C_X1_init_b118 : xrep (f_X1_init_b118 11) 30 0 (me 70 Ik_1 Rk_23) = some (me 310 Ik_1 Rk_24) := by
  refine e_loopT (B := 70) (T := 30) (l0 := 11) (f := 4) (arr := 16) hz_70_1_23 (by decide) (by decide) (by decide) rfl ?_
  intro i R hi hz hR
  unfold f_X1_init_b118
  refine xb_eq (e_gR (by omega) rfl hR) ?_
  refine e_tr hz (by omega) (KF_70_0 i hi) (fun j h => KF_70_1 i j hi h) (by simp; omega) (by simp; omega) ?_
  exact xb_eq (e_wR (v := 70 + 8 * i) (len := 30) (by omega) rfl hi (by decide) (by omega) (by rw [KF_70_0 i hi])) rfl
def Rk_25 : Nat → Nat → Option Nat := lbR Rk_24 17 310 26
def Ik_2 : Nat → Nat → Int32 := lbI Ik_1 310 26
theorem hz_440_2_25 : zf 440 Ik_2 Rk_25 := zf_lF (arr := 17) (T := 26) hz_310_1_24 (by decide)
theorem KF_310_0 (i : Nat) (hi : i < 26) : KK (310 + 5 * i) = (2, 0) := by
  unfold KK
  rw [if_pos (by omega), if_pos (by omega), if_neg (by omega), if_pos (by omega), if_neg (by omega), if_pos (by omega), if_neg (by omega), if_pos (by omega)]
theorem KF_310_1 (i : Nat) (hi : i < 26) : KK (310 + 5 * i + 1) = (10, 0) := by
  unfold KK
  rw [if_pos (by omega), if_pos (by omega), if_neg (by omega), if_pos (by omega), if_neg (by omega), if_pos (by omega), if_neg (by omega), if_neg (by omega), if_pos (by omega)]
theorem KF_310_2 (i : Nat) (hi : i < 26) : KK (310 + 5 * i + 2) = (14, 7) := by
  unfold KK
  rw [if_pos (by omega), if_pos (by omega), if_neg (by omega), if_pos (by omega), if_neg (by omega), if_pos (by omega), if_neg (by omega), if_neg (by omega), if_neg (by omega), if_pos (by omega)]
theorem KF_310_3 (i : Nat) (hi : i < 26) : KK (310 + 5 * i + 3) = (10, 0) := by
  unfold KK
  rw [if_pos (by omega), if_pos (by omega), if_neg (by omega), if_pos (by omega), if_neg (by omega), if_pos (by omega), if_neg (by omega), if_neg (by omega), if_neg (by omega), if_neg (by omega), if_pos (by omega)]
theorem KF_310_4 (i : Nat) (hi : i < 26) : KK (310 + 5 * i + 4) = (14, 7) := by
  unfold KK
  rw [if_pos (by omega), if_pos (by omega), if_neg (by omega), if_pos (by omega), if_neg (by omega), if_pos (by omega), if_neg (by omega), if_neg (by omega), if_neg (by omega), if_neg (by omega), if_neg (by omega)]
theorem C_X1_init_b145 : xrep (f_X1_init_b145 11) 26 0 (me 310 Ik_1 Rk_24) = some (me 440 Ik_2 Rk_25) := by
  refine e_loopF (B := 310) (T := 26) (l0 := 11) (f := 6) (arr := 17) hz_310_1_24 (by decide) (by decide) (by decide) rfl ?_
  intro i I R hi hz hR
  unfold f_X1_init_b145
  refine xb_eq (e_gR (by omega) rfl hR) ?_
  refine e_fr7 hz (by omega) (KF_310_0 i hi) (KF_310_1 i hi) (KF_310_2 i hi) (KF_310_3 i hi) (KF_310_4 i hi) (by simp; omega) (by simp; omega) ?_
  exact xb_eq (e_wR (v := 310 + 5 * i) (len := 26) (by omega) rfl hi (by decide) (by omega) (by rw [KF_310_0 i hi])) rfl
def Rk_26 : Nat → Nat → Option Nat := lbR Rk_25 69 440 20
def Ik_3 : Nat → Nat → Int32 := lbI Ik_2 440 20
theorem hz_540_3_26 : zf 540 Ik_3 Rk_26 := zf_lF (arr := 69) (T := 20) hz_440_2_25 (by decide)
theorem KF_440_0 (i : Nat) (hi : i < 20) : KK (440 + 5 * i) = (2, 0) := by
  unfold KK
  rw [if_pos (by omega), if_pos (by omega), if_neg (by omega), if_pos (by omega), if_neg (by omega), if_pos (by omega), if_neg (by omega), if_pos (by omega)]
theorem KF_440_1 (i : Nat) (hi : i < 20) : KK (440 + 5 * i + 1) = (10, 0) := by
  unfold KK
  rw [if_pos (by omega), if_pos (by omega), if_neg (by omega), if_pos (by omega), if_neg (by omega), if_pos (by omega), if_neg (by omega), if_neg (by omega), if_pos (by omega)]
theorem KF_440_2 (i : Nat) (hi : i < 20) : KK (440 + 5 * i + 2) = (14, 7) := by
  unfold KK
  rw [if_pos (by omega), if_pos (by omega), if_neg (by omega), if_pos (by omega), if_neg (by omega), if_pos (by omega), if_neg (by omega), if_neg (by omega), if_neg (by omega), if_pos (by omega)]
theorem KF_440_3 (i : Nat) (hi : i < 20) : KK (440 + 5 * i + 3) = (10, 0) := by
  unfold KK
  rw [if_pos (by omega), if_pos (by omega), if_neg (by omega), if_pos (by omega), if_neg (by omega), if_pos (by omega), if_neg (by omega), if_neg (by omega), if_neg (by omega), if_neg (by omega), if_pos (by omega)]
theorem KF_440_4 (i : Nat) (hi : i < 20) : KK (440 + 5 * i + 4) = (14, 7) := by
  unfold KK
  rw [if_pos (by omega), if_pos (by omega), if_neg (by omega), if_pos (by omega), if_neg (by omega), if_pos (by omega), if_neg (by omega), if_neg (by omega), if_neg (by omega), if_neg (by omega), if_neg (by omega)]
theorem C_X1_init_b174 : xrep (f_X1_init_b174 11) 20 0 (me 440 Ik_2 Rk_25) = some (me 540 Ik_3 Rk_26) := by
  refine e_loopF (B := 440) (T := 20) (l0 := 11) (f := 12) (arr := 69) hz_440_2_25 (by decide) (by decide) (by decide) rfl ?_
  intro i I R hi hz hR
  unfold f_X1_init_b174
  refine xb_eq (e_gR (by omega) rfl hR) ?_
  refine e_fr7 hz (by omega) (KF_440_0 i hi) (KF_440_1 i hi) (KF_440_2 i hi) (KF_440_3 i hi) (KF_440_4 i hi) (by simp; omega) (by simp; omega) ?_
  exact xb_eq (e_wR (v := 440 + 5 * i) (len := 20) (by omega) rfl hi (by decide) (by omega) (by rw [KF_440_0 i hi])) rfl
theorem C_X1_init_11 : f_X1_init (me 12 Ik_0 Rk_9) 11 = some (me 540 Ik_3 Rk_26) := by
  unfold f_X1_init
  refine xb_eq (a := (me 13 Ik_0 Rk_9)) (e_nwA hz_12_0_9 rfl rfl rfl (by decide)) ?_
  refine xb_eq (a := (me 13 Ik_0 Rk_10)) (e_sR (by decide) rfl (by decide)) ?_
  refine xb_eq (a := (me 14 Ik_0 Rk_10)) (e_nwA hz_13_0_10 rfl rfl rfl (by decide)) ?_
  refine xb_eq (a := (me 14 Ik_0 Rk_11)) (e_sR (by decide) rfl (by decide)) ?_
  refine xb_eq (a := (me 15 Ik_0 Rk_11)) (e_nwA hz_14_0_11 rfl rfl rfl (by decide)) ?_
  refine xb_eq (a := (me 15 Ik_0 Rk_12)) (e_sR (by decide) rfl (by decide)) ?_
  refine xb_eq (a := (me 16 Ik_0 Rk_12)) (e_nwA hz_15_0_12 rfl rfl rfl (by decide)) ?_
  refine xb_eq (a := (me 16 Ik_0 Rk_13)) (e_sR (by decide) rfl (by decide)) ?_
  refine xb_eq (a := (me 17 Ik_0 Rk_13)) (e_nwA hz_16_0_13 rfl rfl rfl (by decide)) ?_
  refine xb_eq (a := (me 17 Ik_0 Rk_14)) (e_sR (by decide) rfl (by decide)) ?_
  refine xb_eq (a := (me 18 Ik_0 Rk_14)) (e_nwA hz_17_0_14 rfl rfl rfl (by decide)) ?_
  refine xb_eq (a := (me 18 Ik_0 Rk_15)) (e_sR (by decide) rfl (by decide)) ?_
  refine xb_eq (a := (me 19 Ik_0 Rk_15)) (e_nwA hz_18_0_15 rfl rfl rfl (by decide)) ?_
  refine xb_eq (a := (me 19 Ik_0 Rk_16)) (e_sR (by decide) rfl (by decide)) ?_
  refine xb_eq (a := (me 46 Ik_0 Rk_17)) (e_nwM (N := 26) (k := 10) hz_19_0_16 rfl rfl rfl (by decide) rfl rfl (by decide)) ?_
  refine xb_eq (a := (me 46 Ik_0 Rk_18)) (e_sR (by decide) rfl (by decide)) ?_
  refine xb_eq (a := (me 47 Ik_0 Rk_18)) (e_nwA hz_46_0_18 rfl rfl rfl (by decide)) ?_
  refine xb_eq (a := (me 47 Ik_0 Rk_19)) (e_sR (by decide) rfl (by decide)) ?_
  refine xb_eq (a := (me 48 Ik_0 Rk_19)) (e_nwA hz_47_0_19 rfl rfl rfl (by decide)) ?_
  refine xb_eq (a := (me 48 Ik_0 Rk_20)) (e_sR (by decide) rfl (by decide)) ?_
  refine xb_eq (a := (me 69 Ik_0 Rk_21)) (e_nwM (N := 20) (k := 10) hz_48_0_20 rfl rfl rfl (by decide) rfl rfl (by decide)) ?_
  refine xb_eq (a := (me 69 Ik_0 Rk_22)) (e_sR (by decide) rfl (by decide)) ?_
  refine xb_eq (a := (me 70 Ik_0 Rk_22)) (e_nwA hz_69_0_22 rfl rfl rfl (by decide)) ?_
  refine xb_eq (a := (me 70 Ik_0 Rk_23)) (e_sR (by decide) rfl (by decide)) ?_
  refine xb_iq (me_xk (by decide) rfl) ?_
  refine xb_eq (a := (me 70 Ik_1 Rk_23)) (e_beginOperators (by decide) rfl rfl rfl rfl rfl) ?_
  refine xb_eq (a := (me 70 Ik_1 Rk_23)) (e_cdo rfl (by decide)) ?_
  refine xb_eq C_X1_init_b118 ?_
  refine xb_eq C_X1_init_b145 ?_
  refine xb_eq C_X1_init_b174 ?_
  rfl
def Rk_27 : Nat → Nat → Option Nat := va_up Rk_26 0 (va_up (Rk_26 0) 2 (some 11))
theorem hz_540_3_27 : zf 540 Ik_3 Rk_27 := zf_R hz_540_3_26 (by decide)
theorem hz_541_3_27 : zf 541 Ik_3 Rk_27 := zf_le hz_540_3_27 (by decide)
theorem hz_542_3_27 : zf 542 Ik_3 Rk_27 := zf_le hz_541_3_27 (by decide)
def Rk_28 : Nat → Nat → Option Nat := va_up Rk_27 540 (va_up (Rk_27 540) 1 (some 541))
theorem hz_542_3_28 : zf 542 Ik_3 Rk_28 := zf_R hz_542_3_27 (by decide)
theorem hz_543_3_28 : zf 543 Ik_3 Rk_28 := zf_le hz_542_3_28 (by decide)
def Rk_29 : Nat → Nat → Option Nat := va_up Rk_28 540 (va_up (Rk_28 540) 2 (some 542))
theorem hz_543_3_29 : zf 543 Ik_3 Rk_29 := zf_R hz_543_3_28 (by decide)
theorem hz_544_3_29 : zf 544 Ik_3 Rk_29 := zf_le hz_543_3_29 (by decide)
def Rk_30 : Nat → Nat → Option Nat := va_up Rk_29 540 (va_up (Rk_29 540) 3 (some 543))
theorem hz_544_3_30 : zf 544 Ik_3 Rk_30 := zf_R hz_544_3_29 (by decide)
theorem hz_545_3_30 : zf 545 Ik_3 Rk_30 := zf_le hz_544_3_30 (by decide)
def Rk_31 : Nat → Nat → Option Nat := va_up Rk_30 540 (va_up (Rk_30 540) 4 (some 544))
theorem hz_545_3_31 : zf 545 Ik_3 Rk_31 := zf_R hz_545_3_30 (by decide)
theorem hz_546_3_31 : zf 546 Ik_3 Rk_31 := zf_le hz_545_3_31 (by decide)
def Rk_32 : Nat → Nat → Option Nat := va_up Rk_31 540 (va_up (Rk_31 540) 9 (some 545))
theorem hz_546_3_32 : zf 546 Ik_3 Rk_32 := zf_R hz_546_3_31 (by decide)
theorem hz_547_3_32 : zf 547 Ik_3 Rk_32 := zf_le hz_546_3_32 (by decide)
def Rk_33 : Nat → Nat → Option Nat := va_up Rk_32 540 (va_up (Rk_32 540) 10 (some 546))
theorem hz_547_3_33 : zf 547 Ik_3 Rk_33 := zf_R hz_547_3_32 (by decide)
theorem hz_548_3_33 : zf 548 Ik_3 Rk_33 := zf_le hz_547_3_33 (by decide)
def Rk_34 : Nat → Nat → Option Nat := va_up Rk_33 540 (va_up (Rk_33 540) 11 (some 547))
theorem hz_548_3_34 : zf 548 Ik_3 Rk_34 := zf_R hz_548_3_33 (by decide)
theorem hz_549_3_34 : zf 549 Ik_3 Rk_34 := zf_le hz_548_3_34 (by decide)
def Rk_35 : Nat → Nat → Option Nat := va_up Rk_34 540 (va_up (Rk_34 540) 12 (some 548))
theorem hz_549_3_35 : zf 549 Ik_3 Rk_35 := zf_R hz_549_3_34 (by decide)
theorem hz_550_3_35 : zf 550 Ik_3 Rk_35 := zf_le hz_549_3_35 (by decide)
def Rk_36 : Nat → Nat → Option Nat := va_up Rk_35 540 (va_up (Rk_35 540) 13 (some 549))
theorem hz_550_3_36 : zf 550 Ik_3 Rk_36 := zf_R hz_550_3_35 (by decide)
theorem hz_551_3_36 : zf 551 Ik_3 Rk_36 := zf_le hz_550_3_36 (by decide)
def Rk_37 : Nat → Nat → Option Nat := va_up Rk_36 540 (va_up (Rk_36 540) 15 (some 550))
theorem hz_551_3_37 : zf 551 Ik_3 Rk_37 := zf_R hz_551_3_36 (by decide)
def Rk_38 : Nat → Nat → Option Nat := trR Rk_37 551
theorem hz_559_3_38 : zf 559 Ik_3 Rk_38 := zf_tr hz_551_3_37
def Rk_39 : Nat → Nat → Option Nat := va_up Rk_38 540 (va_up (Rk_38 540) 17 (some 551))
theorem hz_559_3_39 : zf 559 Ik_3 Rk_39 := zf_R hz_559_3_38 (by decide)
def Rk_40 : Nat → Nat → Option Nat := va_up Rk_39 540 (va_up (Rk_39 540) 0 (some 11))
theorem hz_559_3_40 : zf 559 Ik_3 Rk_40 := zf_R hz_559_3_39 (by decide)
theorem C_X6_init_540 : f_X6_init (me 541 Ik_3 Rk_27) 540 11 = some (me 559 Ik_3 Rk_40) := by
  unfold f_X6_init
  refine xb_eq (a := (me 542 Ik_3 Rk_27)) (e_nwA hz_541_3_27 rfl rfl rfl (by decide)) ?_
  refine xb_eq (a := (me 542 Ik_3 Rk_28)) (e_sR (by decide) rfl (by decide)) ?_
  refine xb_eq (a := (me 543 Ik_3 Rk_28)) (e_nwA hz_542_3_28 rfl rfl rfl (by decide)) ?_
  refine xb_eq (a := (me 543 Ik_3 Rk_29)) (e_sR (by decide) rfl (by decide)) ?_
  refine xb_eq (a := (me 544 Ik_3 Rk_29)) (e_nwA hz_543_3_29 rfl rfl rfl (by decide)) ?_
  refine xb_eq (a := (me 544 Ik_3 Rk_30)) (e_sR (by decide) rfl (by decide)) ?_
  refine xb_eq (a := (me 545 Ik_3 Rk_30)) (e_nwA hz_544_3_30 rfl rfl rfl (by decide)) ?_
  refine xb_eq (a := (me 545 Ik_3 Rk_31)) (e_sR (by decide) rfl (by decide)) ?_
  refine xb_eq (a := (me 546 Ik_3 Rk_31)) (e_nwA hz_545_3_31 rfl rfl rfl (by decide)) ?_
  refine xb_eq (a := (me 546 Ik_3 Rk_32)) (e_sR (by decide) rfl (by decide)) ?_
  refine xb_eq (a := (me 547 Ik_3 Rk_32)) (e_nwA hz_546_3_32 rfl rfl rfl (by decide)) ?_
  refine xb_eq (a := (me 547 Ik_3 Rk_33)) (e_sR (by decide) rfl (by decide)) ?_
  refine xb_eq (a := (me 548 Ik_3 Rk_33)) (e_nwA hz_547_3_33 rfl rfl rfl (by decide)) ?_
  refine xb_eq (a := (me 548 Ik_3 Rk_34)) (e_sR (by decide) rfl (by decide)) ?_
  refine xb_eq (a := (me 549 Ik_3 Rk_34)) (e_nwA hz_548_3_34 rfl rfl rfl (by decide)) ?_
  refine xb_eq (a := (me 549 Ik_3 Rk_35)) (e_sR (by decide) rfl (by decide)) ?_
  refine xb_eq (a := (me 550 Ik_3 Rk_35)) (e_nwA hz_549_3_35 rfl rfl rfl (by decide)) ?_
  refine xb_eq (a := (me 550 Ik_3 Rk_36)) (e_sR (by decide) rfl (by decide)) ?_
  refine xb_eq (a := (me 551 Ik_3 Rk_36)) (e_nwA hz_550_3_36 rfl rfl rfl (by decide)) ?_
  refine xb_eq (a := (me 551 Ik_3 Rk_37)) (e_sR (by decide) rfl (by decide)) ?_
  refine e_tr (n := 551) hz_551_3_37 (by decide) rfl (by decide) rfl rfl ?_
  refine xb_eq (a := (me 559 Ik_3 Rk_39)) (e_sR (by decide) rfl (by decide)) ?_
  refine xb_eq (a := (me 559 Ik_3 Rk_40)) (e_sR (by decide) rfl (by decide)) ?_
  rfl
def Rk_41 : Nat → Nat → Option Nat := va_up Rk_40 0 (va_up (Rk_40 0) 3 (some 540))
theorem hz_559_3_41 : zf 559 Ik_3 Rk_41 := zf_R hz_559_3_40 (by decide)
theorem hz_560_3_41 : zf 560 Ik_3 Rk_41 := zf_le hz_559_3_41 (by decide)
def Rk_42 : Nat → Nat → Option Nat := whR Rk_41 560
theorem hz_562_3_42 : zf 562 Ik_3 Rk_42 := zf_wh hz_560_3_41
def Rk_43 : Nat → Nat → Option Nat := va_up Rk_42 559 (va_up (Rk_42 559) 1 (some 560))
theorem hz_562_3_43 : zf 562 Ik_3 Rk_43 := zf_R hz_562_3_42 (by decide)
theorem hz_563_3_43 : zf 563 Ik_3 Rk_43 := zf_le hz_562_3_43 (by decide)
def Rk_44 : Nat → Nat → Option Nat := va_up Rk_43 559 (va_up (Rk_43 559) 2 (some 562))
theorem hz_563_3_44 : zf 563 Ik_3 Rk_44 := zf_R hz_563_3_43 (by decide)
def Rk_45 : Nat → Nat → Option Nat := va_up Rk_44 559 (va_up (Rk_44 559) 0 (some 540))
theorem hz_563_3_45 : zf 563 Ik_3 Rk_45 := zf_R hz_563_3_44 (by decide)
theorem C_X5_init_559 : f_X5_init (me 560 Ik_3 Rk_41) 559 540 = some (me 563 Ik_3 Rk_45) := by
  unfold f_X5_init
  refine e_wh7 (n := 560) hz_560_3_41 (by decide) rfl rfl rfl rfl ?_
  refine xb_eq (a := (me 562 Ik_3 Rk_43)) (e_sR (by decide) rfl (by decide)) ?_
  refine xb_eq (a := (me 563 Ik_3 Rk_43)) (e_nwA hz_562_3_43 rfl rfl rfl (by decide)) ?_
  refine xb_eq (a := (me 563 Ik_3 Rk_44)) (e_sR (by decide) rfl (by decide)) ?_
  refine xb_eq (a := (me 563 Ik_3 Rk_45)) (e_sR (by decide) rfl (by decide)) ?_
  rfl
def Rk_46 : Nat → Nat → Option Nat := va_up Rk_45 0 (va_up (Rk_45 0) 4 (some 559))
theorem hz_563_3_46 : zf 563 Ik_3 Rk_46 := zf_R hz_563_3_45 (by decide)
theorem hz_564_3_46 : zf 564 Ik_3 Rk_46 := zf_le hz_563_3_46 (by decide)
def Rk_47 : Nat → Nat → Option Nat := whR Rk_46 564
theorem hz_566_3_47 : zf 566 Ik_3 Rk_47 := zf_wh hz_564_3_46
def Rk_48 : Nat → Nat → Option Nat := va_up Rk_47 563 (va_up (Rk_47 563) 1 (some 564))
theorem hz_566_3_48 : zf 566 Ik_3 Rk_48 := zf_R hz_566_3_47 (by decide)
theorem hz_567_3_48 : zf 567 Ik_3 Rk_48 := zf_le hz_566_3_48 (by decide)
def Rk_49 : Nat → Nat → Option Nat := va_up Rk_48 563 (va_up (Rk_48 563) 2 (some 566))
theorem hz_567_3_49 : zf 567 Ik_3 Rk_49 := zf_R hz_567_3_48 (by decide)
def Rk_50 : Nat → Nat → Option Nat := va_up Rk_49 563 (va_up (Rk_49 563) 0 (some 540))
theorem hz_567_3_50 : zf 567 Ik_3 Rk_50 := zf_R hz_567_3_49 (by decide)
theorem C_X5_init_563 : f_X5_init (me 564 Ik_3 Rk_46) 563 540 = some (me 567 Ik_3 Rk_50) := by
  unfold f_X5_init
  refine e_wh7 (n := 564) hz_564_3_46 (by decide) rfl rfl rfl rfl ?_
  refine xb_eq (a := (me 566 Ik_3 Rk_48)) (e_sR (by decide) rfl (by decide)) ?_
  refine xb_eq (a := (me 567 Ik_3 Rk_48)) (e_nwA hz_566_3_48 rfl rfl rfl (by decide)) ?_
  refine xb_eq (a := (me 567 Ik_3 Rk_49)) (e_sR (by decide) rfl (by decide)) ?_
  refine xb_eq (a := (me 567 Ik_3 Rk_50)) (e_sR (by decide) rfl (by decide)) ?_
  rfl
def Rk_51 : Nat → Nat → Option Nat := va_up Rk_50 0 (va_up (Rk_50 0) 5 (some 563))
theorem hz_567_3_51 : zf 567 Ik_3 Rk_51 := zf_R hz_567_3_50 (by decide)
theorem hz_568_3_51 : zf 568 Ik_3 Rk_51 := zf_le hz_567_3_51 (by decide)
theorem hz_569_3_51 : zf 569 Ik_3 Rk_51 := zf_le hz_568_3_51 (by decide)
def Rk_52 : Nat → Nat → Option Nat := va_up Rk_51 567 (va_up (Rk_51 567) 2 (some 568))
theorem hz_569_3_52 : zf 569 Ik_3 Rk_52 := zf_R hz_569_3_51 (by decide)
def Ik_4 : Nat → Nat → Int32 := frI Ik_3 569
def Rk_53 : Nat → Nat → Option Nat := frR Rk_52 569
theorem hz_574_4_53 : zf 574 Ik_4 Rk_53 := zf_fr hz_569_3_52
def Rk_54 : Nat → Nat → Option Nat := va_up Rk_53 567 (va_up (Rk_53 567) 5 (some 569))
theorem hz_574_4_54 : zf 574 Ik_4 Rk_54 := zf_R hz_574_4_53 (by decide)
theorem hz_575_4_54 : zf 575 Ik_4 Rk_54 := zf_le hz_574_4_54 (by decide)
def Rk_55 : Nat → Nat → Option Nat := va_up Rk_54 567 (va_up (Rk_54 567) 6 (some 574))
theorem hz_575_4_55 : zf 575 Ik_4 Rk_55 := zf_R hz_575_4_54 (by decide)
theorem hz_576_4_55 : zf 576 Ik_4 Rk_55 := zf_le hz_575_4_55 (by decide)
def Rk_56 : Nat → Nat → Option Nat := va_up Rk_55 567 (va_up (Rk_55 567) 7 (some 575))
theorem hz_576_4_56 : zf 576 Ik_4 Rk_56 := zf_R hz_576_4_55 (by decide)
theorem hz_577_4_56 : zf 577 Ik_4 Rk_56 := zf_le hz_576_4_56 (by decide)
def Rk_57 : Nat → Nat → Option Nat := va_up Rk_56 567 (va_up (Rk_56 567) 8 (some 576))
theorem hz_577_4_57 : zf 577 Ik_4 Rk_57 := zf_R hz_577_4_56 (by decide)
theorem hz_578_4_57 : zf 578 Ik_4 Rk_57 := zf_le hz_577_4_57 (by decide)
def Rk_58 : Nat → Nat → Option Nat := va_up Rk_57 567 (va_up (Rk_57 567) 9 (some 577))
theorem hz_578_4_58 : zf 578 Ik_4 Rk_58 := zf_R hz_578_4_57 (by decide)
theorem hz_579_4_58 : zf 579 Ik_4 Rk_58 := zf_le hz_578_4_58 (by decide)
def Rk_59 : Nat → Nat → Option Nat := va_up Rk_58 567 (va_up (Rk_58 567) 10 (some 578))
theorem hz_579_4_59 : zf 579 Ik_4 Rk_59 := zf_R hz_579_4_58 (by decide)
theorem hz_580_4_59 : zf 580 Ik_4 Rk_59 := zf_le hz_579_4_59 (by decide)
def Rk_60 : Nat → Nat → Option Nat := va_up Rk_59 567 (va_up (Rk_59 567) 11 (some 579))
theorem hz_580_4_60 : zf 580 Ik_4 Rk_60 := zf_R hz_580_4_59 (by decide)
theorem hz_581_4_60 : zf 581 Ik_4 Rk_60 := zf_le hz_580_4_60 (by decide)
def Rk_61 : Nat → Nat → Option Nat := va_up Rk_60 567 (va_up (Rk_60 567) 14 (some 580))
theorem hz_581_4_61 : zf 581 Ik_4 Rk_61 := zf_R hz_581_4_60 (by decide)
theorem hz_582_4_61 : zf 582 Ik_4 Rk_61 := zf_le hz_581_4_61 (by decide)
def Rk_62 : Nat → Nat → Option Nat := va_up Rk_61 567 (va_up (Rk_61 567) 15 (some 581))
theorem hz_582_4_62 : zf 582 Ik_4 Rk_62 := zf_R hz_582_4_61 (by decide)
theorem hz_583_4_62 : zf 583 Ik_4 Rk_62 := zf_le hz_582_4_62 (by decide)
def Rk_63 : Nat → Nat → Option Nat := va_up Rk_62 567 (va_up (Rk_62 567) 16 (some 582))
theorem hz_583_4_63 : zf 583 Ik_4 Rk_63 := zf_R hz_583_4_62 (by decide)
theorem hz_584_4_63 : zf 584 Ik_4 Rk_63 := zf_le hz_583_4_63 (by decide)
def Rk_64 : Nat → Nat → Option Nat := va_up Rk_63 567 (va_up (Rk_63 567) 17 (some 583))
theorem hz_584_4_64 : zf 584 Ik_4 Rk_64 := zf_R hz_584_4_63 (by decide)
def Rk_65 : Nat → Nat → Option Nat := va_up Rk_64 567 (va_up (Rk_64 567) 0 (some 11))
theorem hz_584_4_65 : zf 584 Ik_4 Rk_65 := zf_R hz_584_4_64 (by decide)
def Rk_66 : Nat → Nat → Option Nat := va_up Rk_65 567 (va_up (Rk_65 567) 1 (some 1))
theorem hz_584_4_66 : zf 584 Ik_4 Rk_66 := zf_R hz_584_4_65 (by decide)
def Rk_67 : Nat → Nat → Option Nat := lbR Rk_66 568 584 240
def Ik_5 : Nat → Nat → Int32 := lbI Ik_4 584 240
theorem hz_1784_5_67 : zf 1784 Ik_5 Rk_67 := zf_lF (arr := 568) (T := 240) hz_584_4_66 (by decide)
theorem KF_584_0 (i : Nat) (hi : i < 240) : KK (584 + 5 * i) = (2, 0) := by
  unfold KK
  rw [if_pos (by omega), if_neg (by omega), if_pos (by omega), if_neg (by omega), if_neg (by omega), if_neg (by omega), if_neg (by omega), if_pos (by omega), if_pos (by omega)]
theorem KF_584_1 (i : Nat) (hi : i < 240) : KK (584 + 5 * i + 1) = (10, 0) := by
  unfold KK
  rw [if_pos (by omega), if_neg (by omega), if_pos (by omega), if_neg (by omega), if_neg (by omega), if_neg (by omega), if_neg (by omega), if_pos (by omega), if_neg (by omega), if_pos (by omega)]
theorem KF_584_2 (i : Nat) (hi : i < 240) : KK (584 + 5 * i + 2) = (14, 7) := by
  unfold KK
  rw [if_pos (by omega), if_neg (by omega), if_pos (by omega), if_neg (by omega), if_neg (by omega), if_neg (by omega), if_neg (by omega), if_pos (by omega), if_neg (by omega), if_neg (by omega), if_pos (by omega)]
theorem KF_584_3 (i : Nat) (hi : i < 240) : KK (584 + 5 * i + 3) = (10, 0) := by
  unfold KK
  rw [if_pos (by omega), if_neg (by omega), if_pos (by omega), if_neg (by omega), if_neg (by omega), if_neg (by omega), if_neg (by omega), if_pos (by omega), if_neg (by omega), if_neg (by omega), if_neg (by omega), if_pos (by omega)]
theorem KF_584_4 (i : Nat) (hi : i < 240) : KK (584 + 5 * i + 4) = (14, 7) := by
  unfold KK
  rw [if_pos (by omega), if_neg (by omega), if_pos (by omega), if_neg (by omega), if_neg (by omega), if_neg (by omega), if_neg (by omega), if_pos (by omega), if_neg (by omega), if_neg (by omega), if_neg (by omega), if_neg (by omega)]
theorem C_X4_init_b130 : xrep (f_X4_init_b130 567 11 1) 240 0 (me 584 Ik_4 Rk_66) = some (me 1784 Ik_5 Rk_67) := by
  refine e_loopF (B := 584) (T := 240) (l0 := 567) (f := 2) (arr := 568) hz_584_4_66 (by decide) (by decide) (by decide) rfl ?_
  intro i I R hi hz hR
  unfold f_X4_init_b130
  refine xb_eq (e_gR (by omega) rfl hR) ?_
  refine e_fr7 hz (by omega) (KF_584_0 i hi) (KF_584_1 i hi) (KF_584_2 i hi) (KF_584_3 i hi) (KF_584_4 i hi) (by simp; omega) (by simp; omega) ?_
  exact xb_eq (e_wR (v := 584 + 5 * i) (len := 240) (by omega) rfl hi (by decide) (by omega) (by rw [KF_584_0 i hi])) rfl
theorem C_X4_init_567 : f_X4_init (me 568 Ik_3 Rk_51) 567 11 1 = some (me 1784 Ik_5 Rk_67) := by
  unfold f_X4_init
  refine xb_eq (a := (me 569 Ik_3 Rk_51)) (e_nwA hz_568_3_51 rfl rfl rfl (by decide)) ?_
  refine xb_eq (a := (me 569 Ik_3 Rk_52)) (e_sR (by decide) rfl (by decide)) ?_
  refine e_fr100 (n := 569) hz_569_3_52 (by decide) rfl rfl rfl rfl rfl rfl rfl ?_
  refine xb_eq (a := (me 574 Ik_4 Rk_54)) (e_sR (by decide) rfl (by decide)) ?_
  refine xb_eq (a := (me 575 Ik_4 Rk_54)) (e_nwA hz_574_4_54 rfl rfl rfl (by decide)) ?_
  refine xb_eq (a := (me 575 Ik_4 Rk_55)) (e_sR (by decide) rfl (by decide)) ?_
  refine xb_eq (a := (me 576 Ik_4 Rk_55)) (e_nwA hz_575_4_55 rfl rfl rfl (by decide)) ?_
  refine xb_eq (a := (me 576 Ik_4 Rk_56)) (e_sR (by decide) rfl (by decide)) ?_
  refine xb_eq (a := (me 577 Ik_4 Rk_56)) (e_nwA hz_576_4_56 rfl rfl rfl (by decide)) ?_
  refine xb_eq (a := (me 577 Ik_4 Rk_57)) (e_sR (by decide) rfl (by decide)) ?_
  refine xb_eq (a := (me 578 Ik_4 Rk_57)) (e_nwA hz_577_4_57 rfl rfl rfl (by decide)) ?_
  refine xb_eq (a := (me 578 Ik_4 Rk_58)) (e_sR (by decide) rfl (by decide)) ?_
  refine xb_eq (a := (me 579 Ik_4 Rk_58)) (e_nwA hz_578_4_58 rfl rfl rfl (by decide)) ?_
  refine xb_eq (a := (me 579 Ik_4 Rk_59)) (e_sR (by decide) rfl (by decide)) ?_
  refine xb_eq (a := (me 580 Ik_4 Rk_59)) (e_nwA hz_579_4_59 rfl rfl rfl (by decide)) ?_
  refine xb_eq (a := (me 580 Ik_4 Rk_60)) (e_sR (by decide) rfl (by decide)) ?_
  refine xb_eq (a := (me 581 Ik_4 Rk_60)) (e_nwA hz_580_4_60 rfl rfl rfl (by decide)) ?_
  refine xb_eq (a := (me 581 Ik_4 Rk_61)) (e_sR (by decide) rfl (by decide)) ?_
  refine xb_eq (a := (me 582 Ik_4 Rk_61)) (e_nwA hz_581_4_61 rfl rfl rfl (by decide)) ?_
  refine xb_eq (a := (me 582 Ik_4 Rk_62)) (e_sR (by decide) rfl (by decide)) ?_
  refine xb_eq (a := (me 583 Ik_4 Rk_62)) (e_nwA hz_582_4_62 rfl rfl rfl (by decide)) ?_
  refine xb_eq (a := (me 583 Ik_4 Rk_63)) (e_sR (by decide) rfl (by decide)) ?_
  refine xb_eq (a := (me 584 Ik_4 Rk_63)) (e_nwA hz_583_4_63 rfl rfl rfl (by decide)) ?_
  refine xb_eq (a := (me 584 Ik_4 Rk_64)) (e_sR (by decide) rfl (by decide)) ?_
  refine xb_eq (a := (me 584 Ik_4 Rk_65)) (e_sR (by decide) rfl (by decide)) ?_
  refine xb_eq (a := (me 584 Ik_4 Rk_66)) (e_sR (by decide) rfl (by decide)) ?_
  refine xb_eq C_X4_init_b130 ?_
  rfl
def Rk_68 : Nat → Nat → Option Nat := va_up Rk_67 0 (va_up (Rk_67 0) 6 (some 567))
theorem hz_1784_5_68 : zf 1784 Ik_5 Rk_68 := zf_R hz_1784_5_67 (by decide)
theorem hz_1785_5_68 : zf 1785 Ik_5 Rk_68 := zf_le hz_1784_5_68 (by decide)
theorem hz_1786_5_68 : zf 1786 Ik_5 Rk_68 := zf_le hz_1785_5_68 (by decide)
def Rk_69 : Nat → Nat → Option Nat := va_up Rk_68 1784 (va_up (Rk_68 1784) 2 (some 1785))
theorem hz_1786_5_69 : zf 1786 Ik_5 Rk_69 := zf_R hz_1786_5_68 (by decide)
def Ik_6 : Nat → Nat → Int32 := frI Ik_5 1786
def Rk_70 : Nat → Nat → Option Nat := frR Rk_69 1786
theorem hz_1791_6_70 : zf 1791 Ik_6 Rk_70 := zf_fr hz_1786_5_69
def Rk_71 : Nat → Nat → Option Nat := va_up Rk_70 1784 (va_up (Rk_70 1784) 4 (some 1786))
theorem hz_1791_6_71 : zf 1791 Ik_6 Rk_71 := zf_R hz_1791_6_70 (by decide)
def Ik_7 : Nat → Nat → Int32 := frI Ik_6 1791
def Rk_72 : Nat → Nat → Option Nat := frR Rk_71 1791
theorem hz_1796_7_72 : zf 1796 Ik_7 Rk_72 := zf_fr hz_1791_6_71
def Rk_73 : Nat → Nat → Option Nat := va_up Rk_72 1784 (va_up (Rk_72 1784) 5 (some 1791))
theorem hz_1796_7_73 : zf 1796 Ik_7 Rk_73 := zf_R hz_1796_7_72 (by decide)
def Ik_8 : Nat → Nat → Int32 := frI Ik_7 1796
def Rk_74 : Nat → Nat → Option Nat := frR Rk_73 1796
theorem hz_1801_8_74 : zf 1801 Ik_8 Rk_74 := zf_fr hz_1796_7_73
def Rk_75 : Nat → Nat → Option Nat := va_up Rk_74 1784 (va_up (Rk_74 1784) 6 (some 1796))
theorem hz_1801_8_75 : zf 1801 Ik_8 Rk_75 := zf_R hz_1801_8_74 (by decide)
def Ik_9 : Nat → Nat → Int32 := frI Ik_8 1801
def Rk_76 : Nat → Nat → Option Nat := frR Rk_75 1801
theorem hz_1806_9_76 : zf 1806 Ik_9 Rk_76 := zf_fr hz_1801_8_75
def Rk_77 : Nat → Nat → Option Nat := va_up Rk_76 1784 (va_up (Rk_76 1784) 7 (some 1801))
theorem hz_1806_9_77 : zf 1806 Ik_9 Rk_77 := zf_R hz_1806_9_76 (by decide)
def Rk_78 : Nat → Nat → Option Nat := va_up Rk_77 1784 (va_up (Rk_77 1784) 0 (some 567))
theorem hz_1806_9_78 : zf 1806 Ik_9 Rk_78 := zf_R hz_1806_9_77 (by decide)
def Rk_79 : Nat → Nat → Option Nat := va_up Rk_78 1784 (va_up (Rk_78 1784) 1 (some 1))
theorem hz_1806_9_79 : zf 1806 Ik_9 Rk_79 := zf_R hz_1806_9_78 (by decide)
def Rk_80 : Nat → Nat → Option Nat := lbR Rk_79 1785 1806 80
def Ik_10 : Nat → Nat → Int32 := lbI Ik_9 1806 80
theorem hz_2206_10_80 : zf 2206 Ik_10 Rk_80 := zf_lF (arr := 1785) (T := 80) hz_1806_9_79 (by decide)
theorem KF_1806_0 (i : Nat) (hi : i < 80) : KK (1806 + 5 * i) = (2, 0) := by
  unfold KK
  rw [if_neg (by omega), if_pos (by omega), if_pos (by omega), if_pos (by omega), if_pos (by omega), if_pos (by omega), if_pos (by omega), if_pos (by omega)]
theorem KF_1806_1 (i : Nat) (hi : i < 80) : KK (1806 + 5 * i + 1) = (10, 0) := by
  unfold KK
  rw [if_neg (by omega), if_pos (by omega), if_pos (by omega), if_pos (by omega), if_pos (by omega), if_pos (by omega), if_pos (by omega), if_neg (by omega), if_pos (by omega)]
theorem KF_1806_2 (i : Nat) (hi : i < 80) : KK (1806 + 5 * i + 2) = (14, 7) := by
  unfold KK
  rw [if_neg (by omega), if_pos (by omega), if_pos (by omega), if_pos (by omega), if_pos (by omega), if_pos (by omega), if_pos (by omega), if_neg (by omega), if_neg (by omega), if_pos (by omega)]
theorem KF_1806_3 (i : Nat) (hi : i < 80) : KK (1806 + 5 * i + 3) = (10, 0) := by
  unfold KK
  rw [if_neg (by omega), if_pos (by omega), if_pos (by omega), if_pos (by omega), if_pos (by omega), if_pos (by omega), if_pos (by omega), if_neg (by omega), if_neg (by omega), if_neg (by omega), if_pos (by omega)]
theorem KF_1806_4 (i : Nat) (hi : i < 80) : KK (1806 + 5 * i + 4) = (14, 7) := by
  unfold KK
  rw [if_neg (by omega), if_pos (by omega), if_pos (by omega), if_pos (by omega), if_pos (by omega), if_pos (by omega), if_pos (by omega), if_neg (by omega), if_neg (by omega), if_neg (by omega), if_neg (by omega)]
theorem C_X8_init_b77 : xrep (f_X8_init_b77 1784 567 1) 80 0 (me 1806 Ik_9 Rk_79) = some (me 2206 Ik_10 Rk_80) := by
  refine e_loopF (B := 1806) (T := 80) (l0 := 1784) (f := 2) (arr := 1785) hz_1806_9_79 (by decide) (by decide) (by decide) rfl ?_
  intro i I R hi hz hR
  unfold f_X8_init_b77
  refine xb_eq (e_gR (by omega) rfl hR) ?_
  refine e_fr7 hz (by omega) (KF_1806_0 i hi) (KF_1806_1 i hi) (KF_1806_2 i hi) (KF_1806_3 i hi) (KF_1806_4 i hi) (by simp; omega) (by simp; omega) ?_
  exact xb_eq (e_wR (v := 1806 + 5 * i) (len := 80) (by omega) rfl hi (by decide) (by omega) (by rw [KF_1806_0 i hi])) rfl
theorem C_X8_init_1784 : f_X8_init (me 1785 Ik_5 Rk_68) 1784 567 1 = some (me 2206 Ik_10 Rk_80) := by
  unfold f_X8_init
  refine xb_eq (a := (me 1786 Ik_5 Rk_68)) (e_nwA hz_1785_5_68 rfl rfl rfl (by decide)) ?_
  refine xb_eq (a := (me 1786 Ik_5 Rk_69)) (e_sR (by decide) rfl (by decide)) ?_
  refine e_fr7 (n := 1786) hz_1786_5_69 (by decide) rfl rfl rfl rfl rfl rfl rfl ?_
  refine xb_eq (a := (me 1791 Ik_6 Rk_71)) (e_sR (by decide) rfl (by decide)) ?_
  refine e_fr7 (n := 1791) hz_1791_6_71 (by decide) rfl rfl rfl rfl rfl rfl rfl ?_
  refine xb_eq (a := (me 1796 Ik_7 Rk_73)) (e_sR (by decide) rfl (by decide)) ?_
  refine e_fr100 (n := 1796) hz_1796_7_73 (by decide) rfl rfl rfl rfl rfl rfl rfl ?_
  refine xb_eq (a := (me 1801 Ik_8 Rk_75)) (e_sR (by decide) rfl (by decide)) ?_
  refine e_fr100 (n := 1801) hz_1801_8_75 (by decide) rfl rfl rfl rfl rfl rfl rfl ?_
  refine xb_eq (a := (me 1806 Ik_9 Rk_77)) (e_sR (by decide) rfl (by decide)) ?_
  refine xb_eq (a := (me 1806 Ik_9 Rk_78)) (e_sR (by decide) rfl (by decide)) ?_
  refine xb_eq (a := (me 1806 Ik_9 Rk_79)) (e_sR (by decide) rfl (by decide)) ?_
  refine xb_eq C_X8_init_b77 ?_
  rfl
def Rk_81 : Nat → Nat → Option Nat := va_up Rk_80 0 (va_up (Rk_80 0) 7 (some 1784))
theorem hz_2206_10_81 : zf 2206 Ik_10 Rk_81 := zf_R hz_2206_10_80 (by decide)
theorem hz_2207_10_81 : zf 2207 Ik_10 Rk_81 := zf_le hz_2206_10_81 (by decide)
def Rk_82 : Nat → Nat → Option Nat := trR Rk_81 2207
theorem hz_2215_10_82 : zf 2215 Ik_10 Rk_82 := zf_tr hz_2207_10_81
def Rk_83 : Nat → Nat → Option Nat := va_up Rk_82 2206 (va_up (Rk_82 2206) 2 (some 2207))
theorem hz_2215_10_83 : zf 2215 Ik_10 Rk_83 := zf_R hz_2215_10_82 (by decide)
def Rk_84 : Nat → Nat → Option Nat := va_up Rk_83 2206 (va_up (Rk_83 2206) 0 (some 11))
theorem hz_2215_10_84 : zf 2215 Ik_10 Rk_84 := zf_R hz_2215_10_83 (by decide)
theorem C_X7_init_2206 : f_X7_init (me 2207 Ik_10 Rk_81) 2206 11 = some (me 2215 Ik_10 Rk_84) := by
  unfold f_X7_init
  refine e_tr (n := 2207) hz_2207_10_81 (by decide) rfl (by decide) rfl rfl ?_
  refine xb_eq (a := (me 2215 Ik_10 Rk_83)) (e_sR (by decide) rfl (by decide)) ?_
  refine xb_eq (a := (me 2215 Ik_10 Rk_84)) (e_sR (by decide) rfl (by decide)) ?_
  rfl
def Rk_85 : Nat → Nat → Option Nat := va_up Rk_84 0 (va_up (Rk_84 0) 8 (some 2206))
theorem hz_2215_10_85 : zf 2215 Ik_10 Rk_85 := zf_R hz_2215_10_84 (by decide)
theorem hz_2216_10_85 : zf 2216 Ik_10 Rk_85 := zf_le hz_2215_10_85 (by decide)
theorem hz_2217_10_85 : zf 2217 Ik_10 Rk_85 := zf_le hz_2216_10_85 (by decide)
def Rk_86 : Nat → Nat → Option Nat := va_up Rk_85 2215 (va_up (Rk_85 2215) 2 (some 2216))
theorem hz_2217_10_86 : zf 2217 Ik_10 Rk_86 := zf_R hz_2217_10_85 (by decide)
theorem hz_2218_10_86 : zf 2218 Ik_10 Rk_86 := zf_le hz_2217_10_86 (by decide)
def Rk_87 : Nat → Nat → Option Nat := va_up Rk_86 2215 (va_up (Rk_86 2215) 3 (some 2217))
theorem hz_2218_10_87 : zf 2218 Ik_10 Rk_87 := zf_R hz_2218_10_86 (by decide)
theorem hz_2219_10_87 : zf 2219 Ik_10 Rk_87 := zf_le hz_2218_10_87 (by decide)
def Rk_88 : Nat → Nat → Option Nat := va_up Rk_87 2215 (va_up (Rk_87 2215) 5 (some 2218))
theorem hz_2219_10_88 : zf 2219 Ik_10 Rk_88 := zf_R hz_2219_10_87 (by decide)
theorem hz_2220_10_88 : zf 2220 Ik_10 Rk_88 := zf_le hz_2219_10_88 (by decide)
def Rk_89 : Nat → Nat → Option Nat := va_up Rk_88 2215 (va_up (Rk_88 2215) 6 (some 2219))
theorem hz_2220_10_89 : zf 2220 Ik_10 Rk_89 := zf_R hz_2220_10_88 (by decide)
def Ik_11 : Nat → Nat → Int32 := frI Ik_10 2220
def Rk_90 : Nat → Nat → Option Nat := frR Rk_89 2220
theorem hz_2225_11_90 : zf 2225 Ik_11 Rk_90 := zf_fr hz_2220_10_89
def Rk_91 : Nat → Nat → Option Nat := va_up Rk_90 2215 (va_up (Rk_90 2215) 7 (some 2220))
theorem hz_2225_11_91 : zf 2225 Ik_11 Rk_91 := zf_R hz_2225_11_90 (by decide)
def Ik_12 : Nat → Nat → Int32 := frI Ik_11 2225
def Rk_92 : Nat → Nat → Option Nat := frR Rk_91 2225
theorem hz_2230_12_92 : zf 2230 Ik_12 Rk_92 := zf_fr hz_2225_11_91
def Rk_93 : Nat → Nat → Option Nat := va_up Rk_92 2215 (va_up (Rk_92 2215) 8 (some 2225))
theorem hz_2230_12_93 : zf 2230 Ik_12 Rk_93 := zf_R hz_2230_12_92 (by decide)
theorem hz_2231_12_93 : zf 2231 Ik_12 Rk_93 := zf_le hz_2230_12_93 (by decide)
def Rk_94 : Nat → Nat → Option Nat := va_up Rk_93 2215 (va_up (Rk_93 2215) 9 (some 2230))
theorem hz_2231_12_94 : zf 2231 Ik_12 Rk_94 := zf_R hz_2231_12_93 (by decide)
def Ik_13 : Nat → Nat → Int32 := frI Ik_12 2231
def Rk_95 : Nat → Nat → Option Nat := frR Rk_94 2231
theorem hz_2236_13_95 : zf 2236 Ik_13 Rk_95 := zf_fr hz_2231_12_94
def Rk_96 : Nat → Nat → Option Nat := va_up Rk_95 2215 (va_up (Rk_95 2215) 10 (some 2231))
theorem hz_2236_13_96 : zf 2236 Ik_13 Rk_96 := zf_R hz_2236_13_95 (by decide)
def Ik_14 : Nat → Nat → Int32 := frI Ik_13 2236
def Rk_97 : Nat → Nat → Option Nat := frR Rk_96 2236
theorem hz_2241_14_97 : zf 2241 Ik_14 Rk_97 := zf_fr hz_2236_13_96
def Rk_98 : Nat → Nat → Option Nat := va_up Rk_97 2215 (va_up (Rk_97 2215) 11 (some 2236))
theorem hz_2241_14_98 : zf 2241 Ik_14 Rk_98 := zf_R hz_2241_14_97 (by decide)
def Ik_15 : Nat → Nat → Int32 := frI Ik_14 2241
def Rk_99 : Nat → Nat → Option Nat := frR Rk_98 2241
theorem hz_2246_15_99 : zf 2246 Ik_15 Rk_99 := zf_fr hz_2241_14_98
def Rk_100 : Nat → Nat → Option Nat := va_up Rk_99 2215 (va_up (Rk_99 2215) 12 (some 2241))
theorem hz_2246_15_100 : zf 2246 Ik_15 Rk_100 := zf_R hz_2246_15_99 (by decide)
def Rk_101 : Nat → Nat → Option Nat := va_up Rk_100 2215 (va_up (Rk_100 2215) 0 (some 11))
theorem hz_2246_15_101 : zf 2246 Ik_15 Rk_101 := zf_R hz_2246_15_100 (by decide)
def Rk_102 : Nat → Nat → Option Nat := va_up Rk_101 2215 (va_up (Rk_101 2215) 1 (some 1))
theorem hz_2246_15_102 : zf 2246 Ik_15 Rk_102 := zf_R hz_2246_15_101 (by decide)
def Rk_103 : Nat → Nat → Option Nat := lbR Rk_102 2216 2246 432
def Ik_16 : Nat → Nat → Int32 := lbI Ik_15 2246 432
theorem hz_4406_16_103 : zf 4406 Ik_16 Rk_103 := zf_lF (arr := 2216) (T := 432) hz_2246_15_102 (by decide)
theorem KF_2246_0 (i : Nat) (hi : i < 432) : KK (2246 + 5 * i) = (2, 0) := by
  unfold KK
  rw [if_neg (by omega), if_pos (by omega), if_pos (by omega), if_neg (by omega), if_neg (by omega), if_neg (by omega), if_neg (by omega), if_neg (by omega), if_pos (by omega)]
theorem KF_2246_1 (i : Nat) (hi : i < 432) : KK (2246 + 5 * i + 1) = (10, 0) := by
  unfold KK
  rw [if_neg (by omega), if_pos (by omega), if_pos (by omega), if_neg (by omega), if_neg (by omega), if_neg (by omega), if_neg (by omega), if_neg (by omega), if_neg (by omega), if_pos (by omega)]
theorem KF_2246_2 (i : Nat) (hi : i < 432) : KK (2246 + 5 * i + 2) = (14, 7) := by
  unfold KK
  rw [if_neg (by omega), if_pos (by omega), if_pos (by omega), if_neg (by omega), if_neg (by omega), if_neg (by omega), if_neg (by omega), if_neg (by omega), if_neg (by omega), if_neg (by omega), if_pos (by omega)]
theorem KF_2246_3 (i : Nat) (hi : i < 432) : KK (2246 + 5 * i + 3) = (10, 0) := by
  unfold KK
  rw [if_neg (by omega), if_pos (by omega), if_pos (by omega), if_neg (by omega), if_neg (by omega), if_neg (by omega), if_neg (by omega), if_neg (by omega), if_neg (by omega), if_neg (by omega), if_neg (by omega), if_pos (by omega)]
theorem KF_2246_4 (i : Nat) (hi : i < 432) : KK (2246 + 5 * i + 4) = (14, 7) := by
  unfold KK
  rw [if_neg (by omega), if_pos (by omega), if_pos (by omega), if_neg (by omega), if_neg (by omega), if_neg (by omega), if_neg (by omega), if_neg (by omega), if_neg (by omega), if_neg (by omega), if_neg (by omega), if_neg (by omega)]
theorem C_X3_init_b126 : xrep (f_X3_init_b126 2215 11 1) 432 0 (me 2246 Ik_15 Rk_102) = some (me 4406 Ik_16 Rk_103) := by
  refine e_loopF (B := 2246) (T := 432) (l0 := 2215) (f := 2) (arr := 2216) hz_2246_15_102 (by decide) (by decide) (by decide) rfl ?_
  intro i I R hi hz hR
  unfold f_X3_init_b126
  refine xb_eq (e_gR (by omega) rfl hR) ?_
  refine e_fr7 hz (by omega) (KF_2246_0 i hi) (KF_2246_1 i hi) (KF_2246_2 i hi) (KF_2246_3 i hi) (KF_2246_4 i hi) (by simp; omega) (by simp; omega) ?_
  exact xb_eq (e_wR (v := 2246 + 5 * i) (len := 432) (by omega) rfl hi (by decide) (by omega) (by rw [KF_2246_0 i hi])) rfl
def Ik_17 : Nat → Nat → Int32 := frI Ik_16 4406
def Rk_104 : Nat → Nat → Option Nat := frR Rk_103 4406
theorem hz_4411_17_104 : zf 4411 Ik_17 Rk_104 := zf_fr hz_4406_16_103
def Rk_105 : Nat → Nat → Option Nat := va_up Rk_104 2218 (va_up (Rk_104 2218) 0 (some 4406))
theorem hz_4411_17_105 : zf 4411 Ik_17 Rk_105 := zf_R hz_4411_17_104 (by decide)
def Ik_18 : Nat → Nat → Int32 := frI Ik_17 4411
def Rk_106 : Nat → Nat → Option Nat := frR Rk_105 4411
theorem hz_4416_18_106 : zf 4416 Ik_18 Rk_106 := zf_fr hz_4411_17_105
def Rk_107 : Nat → Nat → Option Nat := va_up Rk_106 2219 (va_up (Rk_106 2219) 0 (some 4411))
theorem hz_4416_18_107 : zf 4416 Ik_18 Rk_107 := zf_R hz_4416_18_106 (by decide)
def Ik_19 : Nat → Nat → Int32 := frI Ik_18 4416
def Rk_108 : Nat → Nat → Option Nat := frR Rk_107 4416
theorem hz_4421_19_108 : zf 4421 Ik_19 Rk_108 := zf_fr hz_4416_18_107
def Rk_109 : Nat → Nat → Option Nat := va_up Rk_108 2230 (va_up (Rk_108 2230) 0 (some 4416))
theorem hz_4421_19_109 : zf 4421 Ik_19 Rk_109 := zf_R hz_4421_19_108 (by decide)
theorem C_X3_init_b156_0 : f_X3_init_b156 2215 11 1 (Int32.ofNat 0) (me 4406 Ik_16 Rk_103) = some (me 4421 Ik_19 Rk_109) := by
  unfold f_X3_init_b156
  refine xb_eq (a := 2218) (e_gR (by decide) rfl rfl) ?_
  refine e_fr100 (n := 4406) hz_4406_16_103 (by decide) rfl rfl rfl rfl rfl rfl rfl ?_
  refine xb_eq (a := (me 4411 Ik_17 Rk_105)) (e_wR (k := 0) (len := 9) (by decide) rfl (by decide) (by decide) (by decide) rfl) ?_
  refine xb_eq (a := 2219) (e_gR (by decide) rfl rfl) ?_
  refine e_fr100 (n := 4411) hz_4411_17_105 (by decide) rfl rfl rfl rfl rfl rfl rfl ?_
  refine xb_eq (a := (me 4416 Ik_18 Rk_107)) (e_wR (k := 0) (len := 9) (by decide) rfl (by decide) (by decide) (by decide) rfl) ?_
  refine xb_eq (a := 2230) (e_gR (by decide) rfl rfl) ?_
  refine e_fr7 (n := 4416) hz_4416_18_107 (by decide) rfl rfl rfl rfl rfl rfl rfl ?_
  refine xb_eq (a := (me 4421 Ik_19 Rk_109)) (e_wR (k := 0) (len := 9) (by decide) rfl (by decide) (by decide) (by decide) rfl) ?_
  rfl
def Ik_20 : Nat → Nat → Int32 := frI Ik_19 4421
def Rk_110 : Nat → Nat → Option Nat := frR Rk_109 4421
theorem hz_4426_20_110 : zf 4426 Ik_20 Rk_110 := zf_fr hz_4421_19_109
def Rk_111 : Nat → Nat → Option Nat := va_up Rk_110 2218 (va_up (Rk_110 2218) 1 (some 4421))
theorem hz_4426_20_111 : zf 4426 Ik_20 Rk_111 := zf_R hz_4426_20_110 (by decide)
def Ik_21 : Nat → Nat → Int32 := frI Ik_20 4426
def Rk_112 : Nat → Nat → Option Nat := frR Rk_111 4426
theorem hz_4431_21_112 : zf 4431 Ik_21 Rk_112 := zf_fr hz_4426_20_111
def Rk_113 : Nat → Nat → Option Nat := va_up Rk_112 2219 (va_up (Rk_112 2219) 1 (some 4426))
theorem hz_4431_21_113 : zf 4431 Ik_21 Rk_113 := zf_R hz_4431_21_112 (by decide)
def Ik_22 : Nat → Nat → Int32 := frI Ik_21 4431
def Rk_114 : Nat → Nat → Option Nat := frR Rk_113 4431
theorem hz_4436_22_114 : zf 4436 Ik_22 Rk_114 := zf_fr hz_4431_21_113
def Rk_115 : Nat → Nat → Option Nat := va_up Rk_114 2230 (va_up (Rk_114 2230) 1 (some 4431))
theorem hz_4436_22_115 : zf 4436 Ik_22 Rk_115 := zf_R hz_4436_22_114 (by decide)
theorem C_X3_init_b156_1 : f_X3_init_b156 2215 11 1 (Int32.ofNat 1) (me 4421 Ik_19 Rk_109) = some (me 4436 Ik_22 Rk_115) := by
  unfold f_X3_init_b156
  refine xb_eq (a := 2218) (e_gR (by decide) rfl rfl) ?_
  refine e_fr100 (n := 4421) hz_4421_19_109 (by decide) rfl rfl rfl rfl rfl rfl rfl ?_
  refine xb_eq (a := (me 4426 Ik_20 Rk_111)) (e_wR (k := 1) (len := 9) (by decide) rfl (by decide) (by decide) (by decide) rfl) ?_
  refine xb_eq (a := 2219) (e_gR (by decide) rfl rfl) ?_
  refine e_fr100 (n := 4426) hz_4426_20_111 (by decide) rfl rfl rfl rfl rfl rfl rfl ?_
  refine xb_eq (a := (me 4431 Ik_21 Rk_113)) (e_wR (k := 1) (len := 9) (by decide) rfl (by decide) (by decide) (by decide) rfl) ?_
  refine xb_eq (a := 2230) (e_gR (by decide) rfl rfl) ?_
  refine e_fr7 (n := 4431) hz_4431_21_113 (by decide) rfl rfl rfl rfl rfl rfl rfl ?_
  refine xb_eq (a := (me 4436 Ik_22 Rk_115)) (e_wR (k := 1) (len := 9) (by decide) rfl (by decide) (by decide) (by decide) rfl) ?_
  rfl
def Ik_23 : Nat → Nat → Int32 := frI Ik_22 4436
def Rk_116 : Nat → Nat → Option Nat := frR Rk_115 4436
theorem hz_4441_23_116 : zf 4441 Ik_23 Rk_116 := zf_fr hz_4436_22_115
def Rk_117 : Nat → Nat → Option Nat := va_up Rk_116 2218 (va_up (Rk_116 2218) 2 (some 4436))
theorem hz_4441_23_117 : zf 4441 Ik_23 Rk_117 := zf_R hz_4441_23_116 (by decide)
def Ik_24 : Nat → Nat → Int32 := frI Ik_23 4441
def Rk_118 : Nat → Nat → Option Nat := frR Rk_117 4441
theorem hz_4446_24_118 : zf 4446 Ik_24 Rk_118 := zf_fr hz_4441_23_117
def Rk_119 : Nat → Nat → Option Nat := va_up Rk_118 2219 (va_up (Rk_118 2219) 2 (some 4441))
theorem hz_4446_24_119 : zf 4446 Ik_24 Rk_119 := zf_R hz_4446_24_118 (by decide)
def Ik_25 : Nat → Nat → Int32 := frI Ik_24 4446
def Rk_120 : Nat → Nat → Option Nat := frR Rk_119 4446
theorem hz_4451_25_120 : zf 4451 Ik_25 Rk_120 := zf_fr hz_4446_24_119
def Rk_121 : Nat → Nat → Option Nat := va_up Rk_120 2230 (va_up (Rk_120 2230) 2 (some 4446))
theorem hz_4451_25_121 : zf 4451 Ik_25 Rk_121 := zf_R hz_4451_25_120 (by decide)
theorem C_X3_init_b156_2 : f_X3_init_b156 2215 11 1 (Int32.ofNat 2) (me 4436 Ik_22 Rk_115) = some (me 4451 Ik_25 Rk_121) := by
  unfold f_X3_init_b156
  refine xb_eq (a := 2218) (e_gR (by decide) rfl rfl) ?_
  refine e_fr100 (n := 4436) hz_4436_22_115 (by decide) rfl rfl rfl rfl rfl rfl rfl ?_
  refine xb_eq (a := (me 4441 Ik_23 Rk_117)) (e_wR (k := 2) (len := 9) (by decide) rfl (by decide) (by decide) (by decide) rfl) ?_
  refine xb_eq (a := 2219) (e_gR (by decide) rfl rfl) ?_
  refine e_fr100 (n := 4441) hz_4441_23_117 (by decide) rfl rfl rfl rfl rfl rfl rfl ?_
  refine xb_eq (a := (me 4446 Ik_24 Rk_119)) (e_wR (k := 2) (len := 9) (by decide) rfl (by decide) (by decide) (by decide) rfl) ?_
  refine xb_eq (a := 2230) (e_gR (by decide) rfl rfl) ?_
  refine e_fr7 (n := 4446) hz_4446_24_119 (by decide) rfl rfl rfl rfl rfl rfl rfl ?_
  refine xb_eq (a := (me 4451 Ik_25 Rk_121)) (e_wR (k := 2) (len := 9) (by decide) rfl (by decide) (by decide) (by decide) rfl) ?_
  rfl
def Ik_26 : Nat → Nat → Int32 := frI Ik_25 4451
def Rk_122 : Nat → Nat → Option Nat := frR Rk_121 4451
theorem hz_4456_26_122 : zf 4456 Ik_26 Rk_122 := zf_fr hz_4451_25_121
def Rk_123 : Nat → Nat → Option Nat := va_up Rk_122 2218 (va_up (Rk_122 2218) 3 (some 4451))
theorem hz_4456_26_123 : zf 4456 Ik_26 Rk_123 := zf_R hz_4456_26_122 (by decide)
def Ik_27 : Nat → Nat → Int32 := frI Ik_26 4456
def Rk_124 : Nat → Nat → Option Nat := frR Rk_123 4456
theorem hz_4461_27_124 : zf 4461 Ik_27 Rk_124 := zf_fr hz_4456_26_123
def Rk_125 : Nat → Nat → Option Nat := va_up Rk_124 2219 (va_up (Rk_124 2219) 3 (some 4456))
theorem hz_4461_27_125 : zf 4461 Ik_27 Rk_125 := zf_R hz_4461_27_124 (by decide)
def Ik_28 : Nat → Nat → Int32 := frI Ik_27 4461
def Rk_126 : Nat → Nat → Option Nat := frR Rk_125 4461
theorem hz_4466_28_126 : zf 4466 Ik_28 Rk_126 := zf_fr hz_4461_27_125
def Rk_127 : Nat → Nat → Option Nat := va_up Rk_126 2230 (va_up (Rk_126 2230) 3 (some 4461))
theorem hz_4466_28_127 : zf 4466 Ik_28 Rk_127 := zf_R hz_4466_28_126 (by decide)
theorem C_X3_init_b156_3 : f_X3_init_b156 2215 11 1 (Int32.ofNat 3) (me 4451 Ik_25 Rk_121) = some (me 4466 Ik_28 Rk_127) := by
  unfold f_X3_init_b156
  refine xb_eq (a := 2218) (e_gR (by decide) rfl rfl) ?_
  refine e_fr100 (n := 4451) hz_4451_25_121 (by decide) rfl rfl rfl rfl rfl rfl rfl ?_
  refine xb_eq (a := (me 4456 Ik_26 Rk_123)) (e_wR (k := 3) (len := 9) (by decide) rfl (by decide) (by decide) (by decide) rfl) ?_
  refine xb_eq (a := 2219) (e_gR (by decide) rfl rfl) ?_
  refine e_fr100 (n := 4456) hz_4456_26_123 (by decide) rfl rfl rfl rfl rfl rfl rfl ?_
  refine xb_eq (a := (me 4461 Ik_27 Rk_125)) (e_wR (k := 3) (len := 9) (by decide) rfl (by decide) (by decide) (by decide) rfl) ?_
  refine xb_eq (a := 2230) (e_gR (by decide) rfl rfl) ?_
  refine e_fr7 (n := 4461) hz_4461_27_125 (by decide) rfl rfl rfl rfl rfl rfl rfl ?_
  refine xb_eq (a := (me 4466 Ik_28 Rk_127)) (e_wR (k := 3) (len := 9) (by decide) rfl (by decide) (by decide) (by decide) rfl) ?_
  rfl
def Ik_29 : Nat → Nat → Int32 := frI Ik_28 4466
def Rk_128 : Nat → Nat → Option Nat := frR Rk_127 4466
theorem hz_4471_29_128 : zf 4471 Ik_29 Rk_128 := zf_fr hz_4466_28_127
def Rk_129 : Nat → Nat → Option Nat := va_up Rk_128 2218 (va_up (Rk_128 2218) 4 (some 4466))
theorem hz_4471_29_129 : zf 4471 Ik_29 Rk_129 := zf_R hz_4471_29_128 (by decide)
def Ik_30 : Nat → Nat → Int32 := frI Ik_29 4471
def Rk_130 : Nat → Nat → Option Nat := frR Rk_129 4471
theorem hz_4476_30_130 : zf 4476 Ik_30 Rk_130 := zf_fr hz_4471_29_129
def Rk_131 : Nat → Nat → Option Nat := va_up Rk_130 2219 (va_up (Rk_130 2219) 4 (some 4471))
theorem hz_4476_30_131 : zf 4476 Ik_30 Rk_131 := zf_R hz_4476_30_130 (by decide)
def Ik_31 : Nat → Nat → Int32 := frI Ik_30 4476
def Rk_132 : Nat → Nat → Option Nat := frR Rk_131 4476
theorem hz_4481_31_132 : zf 4481 Ik_31 Rk_132 := zf_fr hz_4476_30_131
def Rk_133 : Nat → Nat → Option Nat := va_up Rk_132 2230 (va_up (Rk_132 2230) 4 (some 4476))
theorem hz_4481_31_133 : zf 4481 Ik_31 Rk_133 := zf_R hz_4481_31_132 (by decide)
theorem C_X3_init_b156_4 : f_X3_init_b156 2215 11 1 (Int32.ofNat 4) (me 4466 Ik_28 Rk_127) = some (me 4481 Ik_31 Rk_133) := by
  unfold f_X3_init_b156
  refine xb_eq (a := 2218) (e_gR (by decide) rfl rfl) ?_
  refine e_fr100 (n := 4466) hz_4466_28_127 (by decide) rfl rfl rfl rfl rfl rfl rfl ?_
  refine xb_eq (a := (me 4471 Ik_29 Rk_129)) (e_wR (k := 4) (len := 9) (by decide) rfl (by decide) (by decide) (by decide) rfl) ?_
  refine xb_eq (a := 2219) (e_gR (by decide) rfl rfl) ?_
  refine e_fr100 (n := 4471) hz_4471_29_129 (by decide) rfl rfl rfl rfl rfl rfl rfl ?_
  refine xb_eq (a := (me 4476 Ik_30 Rk_131)) (e_wR (k := 4) (len := 9) (by decide) rfl (by decide) (by decide) (by decide) rfl) ?_
  refine xb_eq (a := 2230) (e_gR (by decide) rfl rfl) ?_
  refine e_fr7 (n := 4476) hz_4476_30_131 (by decide) rfl rfl rfl rfl rfl rfl rfl ?_
  refine xb_eq (a := (me 4481 Ik_31 Rk_133)) (e_wR (k := 4) (len := 9) (by decide) rfl (by decide) (by decide) (by decide) rfl) ?_
  rfl
def Ik_32 : Nat → Nat → Int32 := frI Ik_31 4481
def Rk_134 : Nat → Nat → Option Nat := frR Rk_133 4481
theorem hz_4486_32_134 : zf 4486 Ik_32 Rk_134 := zf_fr hz_4481_31_133
def Rk_135 : Nat → Nat → Option Nat := va_up Rk_134 2218 (va_up (Rk_134 2218) 5 (some 4481))
theorem hz_4486_32_135 : zf 4486 Ik_32 Rk_135 := zf_R hz_4486_32_134 (by decide)
def Ik_33 : Nat → Nat → Int32 := frI Ik_32 4486
def Rk_136 : Nat → Nat → Option Nat := frR Rk_135 4486
theorem hz_4491_33_136 : zf 4491 Ik_33 Rk_136 := zf_fr hz_4486_32_135
def Rk_137 : Nat → Nat → Option Nat := va_up Rk_136 2219 (va_up (Rk_136 2219) 5 (some 4486))
theorem hz_4491_33_137 : zf 4491 Ik_33 Rk_137 := zf_R hz_4491_33_136 (by decide)
def Ik_34 : Nat → Nat → Int32 := frI Ik_33 4491
def Rk_138 : Nat → Nat → Option Nat := frR Rk_137 4491
theorem hz_4496_34_138 : zf 4496 Ik_34 Rk_138 := zf_fr hz_4491_33_137
def Rk_139 : Nat → Nat → Option Nat := va_up Rk_138 2230 (va_up (Rk_138 2230) 5 (some 4491))
theorem hz_4496_34_139 : zf 4496 Ik_34 Rk_139 := zf_R hz_4496_34_138 (by decide)
theorem C_X3_init_b156_5 : f_X3_init_b156 2215 11 1 (Int32.ofNat 5) (me 4481 Ik_31 Rk_133) = some (me 4496 Ik_34 Rk_139) := by
  unfold f_X3_init_b156
  refine xb_eq (a := 2218) (e_gR (by decide) rfl rfl) ?_
  refine e_fr100 (n := 4481) hz_4481_31_133 (by decide) rfl rfl rfl rfl rfl rfl rfl ?_
  refine xb_eq (a := (me 4486 Ik_32 Rk_135)) (e_wR (k := 5) (len := 9) (by decide) rfl (by decide) (by decide) (by decide) rfl) ?_
  refine xb_eq (a := 2219) (e_gR (by decide) rfl rfl) ?_
  refine e_fr100 (n := 4486) hz_4486_32_135 (by decide) rfl rfl rfl rfl rfl rfl rfl ?_
  refine xb_eq (a := (me 4491 Ik_33 Rk_137)) (e_wR (k := 5) (len := 9) (by decide) rfl (by decide) (by decide) (by decide) rfl) ?_
  refine xb_eq (a := 2230) (e_gR (by decide) rfl rfl) ?_
  refine e_fr7 (n := 4491) hz_4491_33_137 (by decide) rfl rfl rfl rfl rfl rfl rfl ?_
  refine xb_eq (a := (me 4496 Ik_34 Rk_139)) (e_wR (k := 5) (len := 9) (by decide) rfl (by decide) (by decide) (by decide) rfl) ?_
  rfl
def Ik_35 : Nat → Nat → Int32 := frI Ik_34 4496
def Rk_140 : Nat → Nat → Option Nat := frR Rk_139 4496
theorem hz_4501_35_140 : zf 4501 Ik_35 Rk_140 := zf_fr hz_4496_34_139
def Rk_141 : Nat → Nat → Option Nat := va_up Rk_140 2218 (va_up (Rk_140 2218) 6 (some 4496))
theorem hz_4501_35_141 : zf 4501 Ik_35 Rk_141 := zf_R hz_4501_35_140 (by decide)
def Ik_36 : Nat → Nat → Int32 := frI Ik_35 4501
def Rk_142 : Nat → Nat → Option Nat := frR Rk_141 4501
theorem hz_4506_36_142 : zf 4506 Ik_36 Rk_142 := zf_fr hz_4501_35_141
def Rk_143 : Nat → Nat → Option Nat := va_up Rk_142 2219 (va_up (Rk_142 2219) 6 (some 4501))
theorem hz_4506_36_143 : zf 4506 Ik_36 Rk_143 := zf_R hz_4506_36_142 (by decide)
def Ik_37 : Nat → Nat → Int32 := frI Ik_36 4506
def Rk_144 : Nat → Nat → Option Nat := frR Rk_143 4506
theorem hz_4511_37_144 : zf 4511 Ik_37 Rk_144 := zf_fr hz_4506_36_143
def Rk_145 : Nat → Nat → Option Nat := va_up Rk_144 2230 (va_up (Rk_144 2230) 6 (some 4506))
theorem hz_4511_37_145 : zf 4511 Ik_37 Rk_145 := zf_R hz_4511_37_144 (by decide)
theorem C_X3_init_b156_6 : f_X3_init_b156 2215 11 1 (Int32.ofNat 6) (me 4496 Ik_34 Rk_139) = some (me 4511 Ik_37 Rk_145) := by
  unfold f_X3_init_b156
  refine xb_eq (a := 2218) (e_gR (by decide) rfl rfl) ?_
  refine e_fr100 (n := 4496) hz_4496_34_139 (by decide) rfl rfl rfl rfl rfl rfl rfl ?_
  refine xb_eq (a := (me 4501 Ik_35 Rk_141)) (e_wR (k := 6) (len := 9) (by decide) rfl (by decide) (by decide) (by decide) rfl) ?_
  refine xb_eq (a := 2219) (e_gR (by decide) rfl rfl) ?_
  refine e_fr100 (n := 4501) hz_4501_35_141 (by decide) rfl rfl rfl rfl rfl rfl rfl ?_
  refine xb_eq (a := (me 4506 Ik_36 Rk_143)) (e_wR (k := 6) (len := 9) (by decide) rfl (by decide) (by decide) (by decide) rfl) ?_
  refine xb_eq (a := 2230) (e_gR (by decide) rfl rfl) ?_
  refine e_fr7 (n := 4506) hz_4506_36_143 (by decide) rfl rfl rfl rfl rfl rfl rfl ?_
  refine xb_eq (a := (me 4511 Ik_37 Rk_145)) (e_wR (k := 6) (len := 9) (by decide) rfl (by decide) (by decide) (by decide) rfl) ?_
  rfl
def Ik_38 : Nat → Nat → Int32 := frI Ik_37 4511
def Rk_146 : Nat → Nat → Option Nat := frR Rk_145 4511
theorem hz_4516_38_146 : zf 4516 Ik_38 Rk_146 := zf_fr hz_4511_37_145
def Rk_147 : Nat → Nat → Option Nat := va_up Rk_146 2218 (va_up (Rk_146 2218) 7 (some 4511))
theorem hz_4516_38_147 : zf 4516 Ik_38 Rk_147 := zf_R hz_4516_38_146 (by decide)
def Ik_39 : Nat → Nat → Int32 := frI Ik_38 4516
def Rk_148 : Nat → Nat → Option Nat := frR Rk_147 4516
theorem hz_4521_39_148 : zf 4521 Ik_39 Rk_148 := zf_fr hz_4516_38_147
def Rk_149 : Nat → Nat → Option Nat := va_up Rk_148 2219 (va_up (Rk_148 2219) 7 (some 4516))
theorem hz_4521_39_149 : zf 4521 Ik_39 Rk_149 := zf_R hz_4521_39_148 (by decide)
def Ik_40 : Nat → Nat → Int32 := frI Ik_39 4521
def Rk_150 : Nat → Nat → Option Nat := frR Rk_149 4521
theorem hz_4526_40_150 : zf 4526 Ik_40 Rk_150 := zf_fr hz_4521_39_149
def Rk_151 : Nat → Nat → Option Nat := va_up Rk_150 2230 (va_up (Rk_150 2230) 7 (some 4521))
theorem hz_4526_40_151 : zf 4526 Ik_40 Rk_151 := zf_R hz_4526_40_150 (by decide)
theorem C_X3_init_b156_7 : f_X3_init_b156 2215 11 1 (Int32.ofNat 7) (me 4511 Ik_37 Rk_145) = some (me 4526 Ik_40 Rk_151) := by
  unfold f_X3_init_b156
  refine xb_eq (a := 2218) (e_gR (by decide) rfl rfl) ?_
  refine e_fr100 (n := 4511) hz_4511_37_145 (by decide) rfl rfl rfl rfl rfl rfl rfl ?_
  refine xb_eq (a := (me 4516 Ik_38 Rk_147)) (e_wR (k := 7) (len := 9) (by decide) rfl (by decide) (by decide) (by decide) rfl) ?_
  refine xb_eq (a := 2219) (e_gR (by decide) rfl rfl) ?_
  refine e_fr100 (n := 4516) hz_4516_38_147 (by decide) rfl rfl rfl rfl rfl rfl rfl ?_
  refine xb_eq (a := (me 4521 Ik_39 Rk_149)) (e_wR (k := 7) (len := 9) (by decide) rfl (by decide) (by decide) (by decide) rfl) ?_
  refine xb_eq (a := 2230) (e_gR (by decide) rfl rfl) ?_
  refine e_fr7 (n := 4521) hz_4521_39_149 (by decide) rfl rfl rfl rfl rfl rfl rfl ?_
  refine xb_eq (a := (me 4526 Ik_40 Rk_151)) (e_wR (k := 7) (len := 9) (by decide) rfl (by decide) (by decide) (by decide) rfl) ?_
  rfl
def Ik_41 : Nat → Nat → Int32 := frI Ik_40 4526
def Rk_152 : Nat → Nat → Option Nat := frR Rk_151 4526
theorem hz_4531_41_152 : zf 4531 Ik_41 Rk_152 := zf_fr hz_4526_40_151
def Rk_153 : Nat → Nat → Option Nat := va_up Rk_152 2218 (va_up (Rk_152 2218) 8 (some 4526))
theorem hz_4531_41_153 : zf 4531 Ik_41 Rk_153 := zf_R hz_4531_41_152 (by decide)
def Ik_42 : Nat → Nat → Int32 := frI Ik_41 4531
def Rk_154 : Nat → Nat → Option Nat := frR Rk_153 4531
theorem hz_4536_42_154 : zf 4536 Ik_42 Rk_154 := zf_fr hz_4531_41_153
def Rk_155 : Nat → Nat → Option Nat := va_up Rk_154 2219 (va_up (Rk_154 2219) 8 (some 4531))
theorem hz_4536_42_155 : zf 4536 Ik_42 Rk_155 := zf_R hz_4536_42_154 (by decide)
def Ik_43 : Nat → Nat → Int32 := frI Ik_42 4536
def Rk_156 : Nat → Nat → Option Nat := frR Rk_155 4536
theorem hz_4541_43_156 : zf 4541 Ik_43 Rk_156 := zf_fr hz_4536_42_155
def Rk_157 : Nat → Nat → Option Nat := va_up Rk_156 2230 (va_up (Rk_156 2230) 8 (some 4536))
theorem hz_4541_43_157 : zf 4541 Ik_43 Rk_157 := zf_R hz_4541_43_156 (by decide)
theorem C_X3_init_b156_8 : f_X3_init_b156 2215 11 1 (Int32.ofNat 8) (me 4526 Ik_40 Rk_151) = some (me 4541 Ik_43 Rk_157) := by
  unfold f_X3_init_b156
  refine xb_eq (a := 2218) (e_gR (by decide) rfl rfl) ?_
  refine e_fr100 (n := 4526) hz_4526_40_151 (by decide) rfl rfl rfl rfl rfl rfl rfl ?_
  refine xb_eq (a := (me 4531 Ik_41 Rk_153)) (e_wR (k := 8) (len := 9) (by decide) rfl (by decide) (by decide) (by decide) rfl) ?_
  refine xb_eq (a := 2219) (e_gR (by decide) rfl rfl) ?_
  refine e_fr100 (n := 4531) hz_4531_41_153 (by decide) rfl rfl rfl rfl rfl rfl rfl ?_
  refine xb_eq (a := (me 4536 Ik_42 Rk_155)) (e_wR (k := 8) (len := 9) (by decide) rfl (by decide) (by decide) (by decide) rfl) ?_
  refine xb_eq (a := 2230) (e_gR (by decide) rfl rfl) ?_
  refine e_fr7 (n := 4536) hz_4536_42_155 (by decide) rfl rfl rfl rfl rfl rfl rfl ?_
  refine xb_eq (a := (me 4541 Ik_43 Rk_157)) (e_wR (k := 8) (len := 9) (by decide) rfl (by decide) (by decide) (by decide) rfl) ?_
  rfl
theorem C_X3_init_2215 : f_X3_init (me 2216 Ik_10 Rk_85) 2215 11 1 = some (me 4541 Ik_43 Rk_157) := by
  unfold f_X3_init
  refine xb_eq (a := (me 2217 Ik_10 Rk_85)) (e_nwA hz_2216_10_85 rfl rfl rfl (by decide)) ?_
  refine xb_eq (a := (me 2217 Ik_10 Rk_86)) (e_sR (by decide) rfl (by decide)) ?_
  refine xb_eq (a := (me 2218 Ik_10 Rk_86)) (e_nwA hz_2217_10_86 rfl rfl rfl (by decide)) ?_
  refine xb_eq (a := (me 2218 Ik_10 Rk_87)) (e_sR (by decide) rfl (by decide)) ?_
  refine xb_eq (a := (me 2219 Ik_10 Rk_87)) (e_nwA hz_2218_10_87 rfl rfl rfl (by decide)) ?_
  refine xb_eq (a := (me 2219 Ik_10 Rk_88)) (e_sR (by decide) rfl (by decide)) ?_
  refine xb_eq (a := (me 2220 Ik_10 Rk_88)) (e_nwA hz_2219_10_88 rfl rfl rfl (by decide)) ?_
  refine xb_eq (a := (me 2220 Ik_10 Rk_89)) (e_sR (by decide) rfl (by decide)) ?_
  refine e_fr100 (n := 2220) hz_2220_10_89 (by decide) rfl rfl rfl rfl rfl rfl rfl ?_
  refine xb_eq (a := (me 2225 Ik_11 Rk_91)) (e_sR (by decide) rfl (by decide)) ?_
  refine e_fr100 (n := 2225) hz_2225_11_91 (by decide) rfl rfl rfl rfl rfl rfl rfl ?_
  refine xb_eq (a := (me 2230 Ik_12 Rk_93)) (e_sR (by decide) rfl (by decide)) ?_
  refine xb_eq (a := (me 2231 Ik_12 Rk_93)) (e_nwA hz_2230_12_93 rfl rfl rfl (by decide)) ?_
  refine xb_eq (a := (me 2231 Ik_12 Rk_94)) (e_sR (by decide) rfl (by decide)) ?_
  refine e_fr7 (n := 2231) hz_2231_12_94 (by decide) rfl rfl rfl rfl rfl rfl rfl ?_
  refine xb_eq (a := (me 2236 Ik_13 Rk_96)) (e_sR (by decide) rfl (by decide)) ?_
  refine e_fr7 (n := 2236) hz_2236_13_96 (by decide) rfl rfl rfl rfl rfl rfl rfl ?_
  refine xb_eq (a := (me 2241 Ik_14 Rk_98)) (e_sR (by decide) rfl (by decide)) ?_
  refine e_fr7 (n := 2241) hz_2241_14_98 (by decide) rfl rfl rfl rfl rfl rfl rfl ?_
  refine xb_eq (a := (me 2246 Ik_15 Rk_100)) (e_sR (by decide) rfl (by decide)) ?_
  refine xb_eq (a := (me 2246 Ik_15 Rk_101)) (e_sR (by decide) rfl (by decide)) ?_
  refine xb_eq (a := (me 2246 Ik_15 Rk_102)) (e_sR (by decide) rfl (by decide)) ?_
  refine xb_eq C_X3_init_b126 ?_
  refine xb_eq (show xrep _ 9 0 _ = _ from ?_) rfl
  show (f_X3_init_b156 2215 11 1 (Int32.ofNat 0) _).bind _ = _
  refine xb_eq C_X3_init_b156_0 ?_
  refine xb_eq C_X3_init_b156_1 ?_
  refine xb_eq C_X3_init_b156_2 ?_
  refine xb_eq C_X3_init_b156_3 ?_
  refine xb_eq C_X3_init_b156_4 ?_
  refine xb_eq C_X3_init_b156_5 ?_
  refine xb_eq C_X3_init_b156_6 ?_
  refine xb_eq C_X3_init_b156_7 ?_
  refine xb_eq C_X3_init_b156_8 ?_
  rfl
def Rk_158 : Nat → Nat → Option Nat := va_up Rk_157 0 (va_up (Rk_157 0) 9 (some 2215))
theorem hz_4541_43_158 : zf 4541 Ik_43 Rk_158 := zf_R hz_4541_43_157 (by decide)
def Ik_44 : Nat → Nat → Int32 := frI Ik_43 4541
def Rk_159 : Nat → Nat → Option Nat := frR Rk_158 4541
theorem hz_4546_44_159 : zf 4546 Ik_44 Rk_159 := zf_fr hz_4541_43_158
def Rk_160 : Nat → Nat → Option Nat := va_up Rk_159 0 (va_up (Rk_159 0) 10 (some 4541))
theorem hz_4546_44_160 : zf 4546 Ik_44 Rk_160 := zf_R hz_4546_44_159 (by decide)
def Ik_45 : Nat → Nat → Int32 := frI Ik_44 4546
def Rk_161 : Nat → Nat → Option Nat := frR Rk_160 4546
theorem hz_4551_45_161 : zf 4551 Ik_45 Rk_161 := zf_fr hz_4546_44_160
def Rk_162 : Nat → Nat → Option Nat := va_up Rk_161 0 (va_up (Rk_161 0) 11 (some 4546))
theorem hz_4551_45_162 : zf 4551 Ik_45 Rk_162 := zf_R hz_4551_45_161 (by decide)
def Rk_163 : Nat → Nat → Option Nat := trR Rk_162 4551
theorem hz_4559_45_163 : zf 4559 Ik_45 Rk_163 := zf_tr hz_4551_45_162
def Rk_164 : Nat → Nat → Option Nat := va_up Rk_163 0 (va_up (Rk_163 0) 12 (some 4551))
theorem hz_4559_45_164 : zf 4559 Ik_45 Rk_164 := zf_R hz_4559_45_163 (by decide)
theorem hz_4560_45_164 : zf 4560 Ik_45 Rk_164 := zf_le hz_4559_45_164 (by decide)
def Rk_165 : Nat → Nat → Option Nat := va_up Rk_164 0 (va_up (Rk_164 0) 13 (some 4559))
theorem hz_4560_45_165 : zf 4560 Ik_45 Rk_165 := zf_R hz_4560_45_164 (by decide)
theorem hz_4561_45_165 : zf 4561 Ik_45 Rk_165 := zf_le hz_4560_45_165 (by decide)
def Rk_166 : Nat → Nat → Option Nat := va_up Rk_165 0 (va_up (Rk_165 0) 14 (some 4560))
theorem hz_4561_45_166 : zf 4561 Ik_45 Rk_166 := zf_R hz_4561_45_165 (by decide)
theorem C_X11_init : f_X11_init (me 1 Ik_0 Rk_0) 0 = some (me 4561 Ik_45 Rk_166) := by
  unfold f_X11_init
  refine xb_eq (a := (me 2 Ik_0 Rk_0)) (e_nwO hz_1_0_0 rfl rfl (by decide)) ?_
  refine xb_eq C_X0_init_1 ?_
  refine xb_eq (a := (me 10 Ik_0 Rk_8)) (e_cdo rfl (by decide)) ?_
  refine xb_eq (a := (me 11 Ik_0 Rk_8)) (e_nwA hz_10_0_8 rfl rfl rfl (by decide)) ?_
  refine xb_eq (a := (me 11 Ik_0 Rk_9)) (e_sR (by decide) rfl (by decide)) ?_
  refine xb_eq (a := (me 12 Ik_0 Rk_9)) (e_nwO hz_11_0_9 rfl rfl (by decide)) ?_
  refine xb_eq C_X1_init_11 ?_
  refine xb_eq (a := (me 540 Ik_3 Rk_26)) (e_cdo rfl (by decide)) ?_
  refine xb_eq (a := (me 540 Ik_3 Rk_27)) (e_sR (by decide) rfl (by decide)) ?_
  refine xb_eq (a := (me 541 Ik_3 Rk_27)) (e_nwO hz_540_3_27 rfl rfl (by decide)) ?_
  refine xb_eq (a := 11) (e_gR (by decide) rfl rfl) ?_
  refine xb_eq C_X6_init_540 ?_
  refine xb_eq (a := (me 559 Ik_3 Rk_40)) (e_cdo rfl (by decide)) ?_
  refine xb_eq (a := (me 559 Ik_3 Rk_41)) (e_sR (by decide) rfl (by decide)) ?_
  refine xb_eq (a := (me 560 Ik_3 Rk_41)) (e_nwO hz_559_3_41 rfl rfl (by decide)) ?_
  refine xb_eq (a := 540) (e_gR (by decide) rfl rfl) ?_
  refine xb_eq C_X5_init_559 ?_
  refine xb_eq (a := (me 563 Ik_3 Rk_45)) (e_cdo rfl (by decide)) ?_
  refine xb_eq (a := (me 563 Ik_3 Rk_46)) (e_sR (by decide) rfl (by decide)) ?_
  refine xb_eq (a := (me 564 Ik_3 Rk_46)) (e_nwO hz_563_3_46 rfl rfl (by decide)) ?_
  refine xb_eq (a := 540) (e_gR (by decide) rfl rfl) ?_
  refine xb_eq C_X5_init_563 ?_
  refine xb_eq (a := (me 567 Ik_3 Rk_50)) (e_cdo rfl (by decide)) ?_
  refine xb_eq (a := (me 567 Ik_3 Rk_51)) (e_sR (by decide) rfl (by decide)) ?_
  refine xb_eq (a := (me 568 Ik_3 Rk_51)) (e_nwO hz_567_3_51 rfl rfl (by decide)) ?_
  refine xb_eq (a := 11) (e_gR (by decide) rfl rfl) ?_
  refine xb_eq C_X4_init_567 ?_
  refine xb_eq (a := (me 1784 Ik_5 Rk_67)) (e_cdo rfl (by decide)) ?_
  refine xb_eq (a := (me 1784 Ik_5 Rk_68)) (e_sR (by decide) rfl (by decide)) ?_
  refine xb_eq (a := (me 1785 Ik_5 Rk_68)) (e_nwO hz_1784_5_68 rfl rfl (by decide)) ?_
  refine xb_eq (a := 567) (e_gR (by decide) rfl rfl) ?_
  refine xb_eq C_X8_init_1784 ?_
  refine xb_eq (a := (me 2206 Ik_10 Rk_80)) (e_cdo rfl (by decide)) ?_
  refine xb_eq (a := (me 2206 Ik_10 Rk_81)) (e_sR (by decide) rfl (by decide)) ?_
  refine xb_eq (a := (me 2207 Ik_10 Rk_81)) (e_nwO hz_2206_10_81 rfl rfl (by decide)) ?_
  refine xb_eq (a := 11) (e_gR (by decide) rfl rfl) ?_
  refine xb_eq C_X7_init_2206 ?_
  refine xb_eq (a := (me 2215 Ik_10 Rk_84)) (e_cdo rfl (by decide)) ?_
  refine xb_eq (a := (me 2215 Ik_10 Rk_85)) (e_sR (by decide) rfl (by decide)) ?_
  refine xb_eq (a := (me 2216 Ik_10 Rk_85)) (e_nwO hz_2215_10_85 rfl rfl (by decide)) ?_
  refine xb_eq (a := 11) (e_gR (by decide) rfl rfl) ?_
  refine xb_eq C_X3_init_2215 ?_
  refine xb_eq (a := (me 4541 Ik_43 Rk_157)) (e_cdo rfl (by decide)) ?_
  refine xb_eq (a := (me 4541 Ik_43 Rk_158)) (e_sR (by decide) rfl (by decide)) ?_
  refine e_fr7 (n := 4541) hz_4541_43_158 (by decide) rfl rfl rfl rfl rfl rfl rfl ?_
  refine xb_eq (a := (me 4546 Ik_44 Rk_160)) (e_sR (by decide) rfl (by decide)) ?_
  refine e_fr7 (n := 4546) hz_4546_44_160 (by decide) rfl rfl rfl rfl rfl rfl rfl ?_
  refine xb_eq (a := (me 4551 Ik_45 Rk_162)) (e_sR (by decide) rfl (by decide)) ?_
  refine e_tr (n := 4551) hz_4551_45_162 (by decide) rfl (by decide) rfl rfl ?_
  refine xb_eq (a := (me 4559 Ik_45 Rk_164)) (e_sR (by decide) rfl (by decide)) ?_
  refine xb_eq (a := (me 4560 Ik_45 Rk_164)) (e_nwA hz_4559_45_164 rfl rfl rfl (by decide)) ?_
  refine xb_eq (a := (me 4560 Ik_45 Rk_165)) (e_sR (by decide) rfl (by decide)) ?_
  refine xb_eq (a := (me 4561 Ik_45 Rk_165)) (e_nwA hz_4560_45_165 rfl rfl rfl (by decide)) ?_
  refine xb_eq (a := (me 4561 Ik_45 Rk_166)) (e_sR (by decide) rfl (by decide)) ?_
  rfl
