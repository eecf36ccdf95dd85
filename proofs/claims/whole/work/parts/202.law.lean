def g_law_228 (xs : Nat → Int32) (L : Nat) (kh18 : ns_St → Nat → Nat → Int32 → Option (Unit × ns_St)) (σ : ns_St) (a1 : Nat) (a2 : Nat) (x3 : Int32) : Option (Unit × ns_St) := grd (ns_in (x3 + (1 : Int32)) L) <| grd (ns_in (x3 + (2 : Int32)) L) <| grd (ns_in (x3 + (3 : Int32)) L) <| cl2 (g_N_row σ a1 (xs (ns_ix (x3 + (1 : Int32)))) (xs (ns_ix (x3 + (2 : Int32)))) (xs (ns_ix (x3 + (3 : Int32))))) fun r466 σ465 => grd (ns_in (x3 + (1 : Int32)) L) <| grd (ns_in (x3 + (2 : Int32)) L) <| grd (ns_in (x3 + (3 : Int32)) L) <| cl2 (g_M_row σ465 a2 (xs (ns_ix (x3 + (1 : Int32)))) (xs (ns_ix (x3 + (2 : Int32)))) (xs (ns_ix (x3 + (3 : Int32))))) fun r471 σ470 => ite2 (r466 = r471) (bnd (x3 + 6) fun z473 => kh18 σ470 a1 a2 z473) (none)
def g_law_271 (xs : Nat → Int32) (L : Nat) (kh18 : ns_St → Nat → Nat → Int32 → Option (Unit × ns_St)) (σ : ns_St) (a1 : Nat) (a2 : Nat) (x3 : Int32) : Option (Unit × ns_St) := grd (ns_in (x3 + (1 : Int32)) L) <| grd (ns_in (x3 + (2 : Int32)) L) <| grd (ns_in (x3 + (3 : Int32)) L) <| grd (ns_in (x3 + (4 : Int32)) L) <| cl2 (g_N_set σ a1 (xs (ns_ix (x3 + (1 : Int32)))) (xs (ns_ix (x3 + (2 : Int32)))) ((((xs (ns_ix (x3 + (3 : Int32)))).toInt64) <<< ((32 : Int32).toInt64 &&& 63)) ||| (((xs (ns_ix (x3 + (4 : Int32)))).toInt64) &&& (4294967295 : Int64)))) fun r479 σ478 => grd (ns_in (x3 + (1 : Int32)) L) <| grd (ns_in (x3 + (2 : Int32)) L) <| grd (ns_in (x3 + (3 : Int32)) L) <| grd (ns_in (x3 + (4 : Int32)) L) <| cl2 (g_M_set σ478 a2 (xs (ns_ix (x3 + (1 : Int32)))) (xs (ns_ix (x3 + (2 : Int32)))) ((((xs (ns_ix (x3 + (3 : Int32)))).toInt64) <<< ((32 : Int32).toInt64 &&& 63)) ||| (((xs (ns_ix (x3 + (4 : Int32)))).toInt64) &&& (4294967295 : Int64)))) fun r485 σ484 => ite2 (r479 = r485) (bnd (x3 + 6) fun z487 => kh18 σ484 a1 a2 z487) (none)
def g_law_344 (xs : Nat → Int32) (L : Nat) (kh18 : ns_St → Nat → Nat → Int32 → Option (Unit × ns_St)) (σ : ns_St) (a1 : Nat) (a2 : Nat) (x3 : Int32) : Option (Unit × ns_St) := grd (ns_in (x3 + (1 : Int32)) L) <| grd (ns_in (x3 + (2 : Int32)) L) <| grd (ns_in (x3 + (3 : Int32)) L) <| grd (ns_in (x3 + (4 : Int32)) L) <| grd (ns_in (x3 + (5 : Int32)) L) <| cl2 (g_N_copy σ a1 (xs (ns_ix (x3 + (1 : Int32)))) (xs (ns_ix (x3 + (2 : Int32)))) (xs (ns_ix (x3 + (3 : Int32)))) (xs (ns_ix (x3 + (4 : Int32)))) (xs (ns_ix (x3 + (5 : Int32))))) fun r494 σ493 => grd (ns_in (x3 + (1 : Int32)) L) <| grd (ns_in (x3 + (2 : Int32)) L) <| grd (ns_in (x3 + (3 : Int32)) L) <| grd (ns_in (x3 + (4 : Int32)) L) <| grd (ns_in (x3 + (5 : Int32)) L) <| cl2 (g_M_copy σ493 a2 (xs (ns_ix (x3 + (1 : Int32)))) (xs (ns_ix (x3 + (2 : Int32)))) (xs (ns_ix (x3 + (3 : Int32)))) (xs (ns_ix (x3 + (4 : Int32)))) (xs (ns_ix (x3 + (5 : Int32))))) fun r501 σ500 => ite2 (r494 = r501) (bnd (x3 + 6) fun z503 => kh18 σ500 a1 a2 z503) (none)
def g_law_407 (xs : Nat → Int32) (L : Nat) (kh18 : ns_St → Nat → Nat → Int32 → Option (Unit × ns_St)) (σ : ns_St) (a1 : Nat) (a2 : Nat) (x3 : Int32) : Option (Unit × ns_St) := grd (ns_in (x3 + (1 : Int32)) L) <| grd (ns_in (x3 + (2 : Int32)) L) <| cl2 (g_N_element σ a1 (xs (ns_ix (x3 + (1 : Int32)))) (xs (ns_ix (x3 + (2 : Int32))))) fun r507 σ506 => grd (ns_in (x3 + (1 : Int32)) L) <| grd (ns_in (x3 + (2 : Int32)) L) <| cl2 (g_M_element σ506 a2 (xs (ns_ix (x3 + (1 : Int32)))) (xs (ns_ix (x3 + (2 : Int32))))) fun r511 σ510 => ite2 ((lg_cmp r507 r511) = 0) (bnd (x3 + 6) fun z513 => kh18 σ510 a1 a2 z513) (none)
def g_law_441 (xs : Nat → Int32) (L : Nat) (kh18 : ns_St → Nat → Nat → Int32 → Option (Unit × ns_St)) (σ : ns_St) (a1 : Nat) (a2 : Nat) (x3 : Int32) : Option (Unit × ns_St) := grd (ns_in (x3 + (1 : Int32)) L) <| cl2 (g_N_holds σ a1 (xs (ns_ix (x3 + (1 : Int32))))) fun r516 σ515 => grd (ns_in (x3 + (1 : Int32)) L) <| cl2 (g_M_holds σ515 a2 (xs (ns_ix (x3 + (1 : Int32))))) fun r519 σ518 => ite2 (r516 = r519) (bnd (x3 + 6) fun z521 => kh18 σ518 a1 a2 z521) (none)
def g_law_464 (xs : Nat → Int32) (L : Nat) (kh18 : ns_St → Nat → Nat → Int32 → Option (Unit × ns_St)) (σ : ns_St) (a1 : Nat) (a2 : Nat) (x3 : Int32) : Option (Unit × ns_St) := grd (ns_in (x3 + (1 : Int32)) L) <| grd (ns_in (x3 + (2 : Int32)) L) <| cl2 (g_N_show σ a1 (xs (ns_ix (x3 + (1 : Int32)))) (xs (ns_ix (x3 + (2 : Int32))))) fun r525 σ524 => grd (ns_in (x3 + (1 : Int32)) L) <| grd (ns_in (x3 + (2 : Int32)) L) <| cl2 (g_M_show σ524 a2 (xs (ns_ix (x3 + (1 : Int32)))) (xs (ns_ix (x3 + (2 : Int32))))) fun r529 σ528 => ite2 (r525 = r529) (bnd (x3 + 6) fun z531 => kh18 σ528 a1 a2 z531) (none)
def g_law_497 (xs : Nat → Int32) (L : Nat) (kh18 : ns_St → Nat → Nat → Int32 → Option (Unit × ns_St)) (σ : ns_St) (a1 : Nat) (a2 : Nat) (x3 : Int32) : Option (Unit × ns_St) := grd (ns_in (x3 + (1 : Int32)) L) <| grd (ns_in (x3 + (2 : Int32)) L) <| cl2 (g_N_says σ a1 (xs (ns_ix (x3 + (1 : Int32)))) (xs (ns_ix (x3 + (2 : Int32))))) fun r535 σ534 => grd (ns_in (x3 + (1 : Int32)) L) <| grd (ns_in (x3 + (2 : Int32)) L) <| cl2 (g_M_says σ534 a2 (xs (ns_ix (x3 + (1 : Int32)))) (xs (ns_ix (x3 + (2 : Int32))))) fun r539 σ538 => ite2 (r535 = r539) (bnd (x3 + 6) fun z541 => kh18 σ538 a1 a2 z541) (none)
def g_law_530 (xs : Nat → Int32) (L : Nat) (kh18 : ns_St → Nat → Nat → Int32 → Option (Unit × ns_St)) (σ : ns_St) (a1 : Nat) (a2 : Nat) (x3 : Int32) : Option (Unit × ns_St) := grd (ns_in (x3 + (1 : Int32)) L) <| cl2 (g_N_length σ a1 (xs (ns_ix (x3 + (1 : Int32))))) fun r544 σ543 => grd (ns_in (x3 + (1 : Int32)) L) <| cl2 (g_M_length σ543 a2 (xs (ns_ix (x3 + (1 : Int32))))) fun r547 σ546 => ite2 (r544 = r547) (bnd (x3 + 6) fun z549 => kh18 σ546 a1 a2 z549) (none)
def g_law_604 (xs : Nat → Int32) (L : Nat) (kh18 : ns_St → Nat → Nat → Int32 → Option (Unit × ns_St)) (σ : ns_St) (s0 : Int32) (s1 : Nat) (s2 : Int32) (s3 : Int32) (s4 : Int32) (a1 : Nat) (a2 : Nat) (x3 : Int32) : Option (Unit × ns_St) := cl2 (g_M_put σ s1 s2 s3 s4) fun r551 σ550 => ite2 (s0 = r551) (bnd (x3 + 6) fun z553 => kh18 σ550 a1 a2 z553) (none)
def g_law_577 (xs : Nat → Int32) (L : Nat) (kh18 : ns_St → Nat → Nat → Int32 → Option (Unit × ns_St)) (σ : ns_St) (s0 : Nat) (s1 : Int32) (s2 : Int32) (s3 : Int32) (a1 : Nat) (a2 : Nat) (x3 : Int32) : Option (Unit × ns_St) := cl2 (g_N_put σ s0 s1 s2 s3) fun r555 σ554 => grd (ns_in (x3 + (1 : Int32)) L) <| grd (ns_in (x3 + (2 : Int32)) L) <| grd (ns_in (x3 + (3 : Int32)) L) <| ite2 ((xs (ns_ix (x3 + (3 : Int32)))) = 0) (g_law_604 xs L kh18 σ554 r555 a2 (xs (ns_ix (x3 + (1 : Int32)))) (xs (ns_ix (x3 + (2 : Int32)))) (0 : Int32) a1 a2 x3) (g_law_604 xs L kh18 σ554 r555 a2 (xs (ns_ix (x3 + (1 : Int32)))) (xs (ns_ix (x3 + (2 : Int32)))) (1 : Int32) a1 a2 x3)
def g_law_553 (xs : Nat → Int32) (L : Nat) (kh18 : ns_St → Nat → Nat → Int32 → Option (Unit × ns_St)) (σ : ns_St) (a1 : Nat) (a2 : Nat) (x3 : Int32) : Option (Unit × ns_St) := grd (ns_in (x3 + (1 : Int32)) L) <| grd (ns_in (x3 + (2 : Int32)) L) <| grd (ns_in (x3 + (3 : Int32)) L) <| ite2 ((xs (ns_ix (x3 + (3 : Int32)))) = 0) (g_law_577 xs L kh18 σ a1 (xs (ns_ix (x3 + (1 : Int32)))) (xs (ns_ix (x3 + (2 : Int32)))) (0 : Int32) a1 a2 x3) (g_law_577 xs L kh18 σ a1 (xs (ns_ix (x3 + (1 : Int32)))) (xs (ns_ix (x3 + (2 : Int32)))) (1 : Int32) a1 a2 x3)
def g_law_612 (xs : Nat → Int32) (L : Nat) (kh18 : ns_St → Nat → Nat → Int32 → Option (Unit × ns_St)) (σ : ns_St) (a1 : Nat) (a2 : Nat) (x3 : Int32) : Option (Unit × ns_St) := grd (ns_in (x3 + (1 : Int32)) L) <| grd (ns_in (x3 + (2 : Int32)) L) <| grd (ns_in (x3 + (3 : Int32)) L) <| cl2 (g_N_mule σ a1 (xs (ns_ix (x3 + (1 : Int32)))) (xs (ns_ix (x3 + (2 : Int32)))) (xs (ns_ix (x3 + (3 : Int32))))) fun r568 σ567 => grd (ns_in (x3 + (1 : Int32)) L) <| grd (ns_in (x3 + (2 : Int32)) L) <| grd (ns_in (x3 + (3 : Int32)) L) <| cl2 (g_M_mule σ567 a2 (xs (ns_ix (x3 + (1 : Int32)))) (xs (ns_ix (x3 + (2 : Int32)))) (xs (ns_ix (x3 + (3 : Int32))))) fun r573 σ572 => ite2 (r568 = r573) (bnd (x3 + 6) fun z575 => kh18 σ572 a1 a2 z575) (none)
def g_law_655 (xs : Nat → Int32) (L : Nat) (kh18 : ns_St → Nat → Nat → Int32 → Option (Unit × ns_St)) (σ : ns_St) (a1 : Nat) (a2 : Nat) (x3 : Int32) : Option (Unit × ns_St) := grd (ns_in (x3 + (1 : Int32)) L) <| grd (ns_in (x3 + (2 : Int32)) L) <| grd (ns_in (x3 + (3 : Int32)) L) <| cl2 (g_N_stand σ a1 (xs (ns_ix (x3 + (1 : Int32)))) (xs (ns_ix (x3 + (2 : Int32)))) (xs (ns_ix (x3 + (3 : Int32))))) fun r580 σ579 => grd (ns_in (x3 + (1 : Int32)) L) <| grd (ns_in (x3 + (2 : Int32)) L) <| grd (ns_in (x3 + (3 : Int32)) L) <| cl2 (g_M_stand σ579 a2 (xs (ns_ix (x3 + (1 : Int32)))) (xs (ns_ix (x3 + (2 : Int32)))) (xs (ns_ix (x3 + (3 : Int32))))) fun r585 σ584 => ite2 (r580 = r585) (bnd (x3 + 6) fun z587 => kh18 σ584 a1 a2 z587) (none)
def g_law_698 (xs : Nat → Int32) (L : Nat) (kh18 : ns_St → Nat → Nat → Int32 → Option (Unit × ns_St)) (σ : ns_St) (a1 : Nat) (a2 : Nat) (x3 : Int32) : Option (Unit × ns_St) := grd (ns_in (x3 + (1 : Int32)) L) <| grd (ns_in (x3 + (2 : Int32)) L) <| cl2 (g_N_teach σ a1 (xs (ns_ix (x3 + (1 : Int32)))) (xs (ns_ix (x3 + (2 : Int32))))) fun r591 σ590 => grd (ns_in (x3 + (1 : Int32)) L) <| grd (ns_in (x3 + (2 : Int32)) L) <| cl2 (g_M_teach σ590 a2 (xs (ns_ix (x3 + (1 : Int32)))) (xs (ns_ix (x3 + (2 : Int32))))) fun r595 σ594 => ite2 (r591 = r595) (bnd (x3 + 6) fun z597 => kh18 σ594 a1 a2 z597) (none)
def g_law_731 (xs : Nat → Int32) (L : Nat) (kh18 : ns_St → Nat → Nat → Int32 → Option (Unit × ns_St)) (σ : ns_St) (a1 : Nat) (a2 : Nat) (x3 : Int32) : Option (Unit × ns_St) := grd (ns_in (x3 + (1 : Int32)) L) <| cl2 (g_N_slip σ a1 (xs (ns_ix (x3 + (1 : Int32))))) fun r600 σ599 => grd (ns_in (x3 + (1 : Int32)) L) <| cl2 (g_M_slip σ599 a2 (xs (ns_ix (x3 + (1 : Int32))))) fun r603 σ602 => ite2 (r600 = r603) (bnd (x3 + 6) fun z605 => kh18 σ602 a1 a2 z605) (none)
def g_law_754 (xs : Nat → Int32) (L : Nat) (kh18 : ns_St → Nat → Nat → Int32 → Option (Unit × ns_St)) (σ : ns_St) (a1 : Nat) (a2 : Nat) (x3 : Int32) : Option (Unit × ns_St) := grd (ns_in (x3 + (1 : Int32)) L) <| cl2 (g_N_feed σ a1 (xs (ns_ix (x3 + (1 : Int32))))) fun r608 σ607 => grd (ns_in (x3 + (1 : Int32)) L) <| cl2 (g_M_feed σ607 a2 (xs (ns_ix (x3 + (1 : Int32))))) fun r611 σ610 => ite2 (r608 = r611) (bnd (x3 + 6) fun z613 => kh18 σ610 a1 a2 z613) (none)
def g_law_777 (xs : Nat → Int32) (L : Nat) (kh18 : ns_St → Nat → Nat → Int32 → Option (Unit × ns_St)) (σ : ns_St) (a1 : Nat) (a2 : Nat) (x3 : Int32) : Option (Unit × ns_St) := cl2 (g_N_wipe σ a1) fun r615 σ614 => cl2 (g_M_wipe σ614 a2) fun r617 σ616 => ite2 (r615 = r617) (bnd (x3 + 6) fun z619 => kh18 σ616 a1 a2 z619) (none)
def g_law_790 (xs : Nat → Int32) (L : Nat) (kh18 : ns_St → Nat → Nat → Int32 → Option (Unit × ns_St)) (σ : ns_St) (a1 : Nat) (a2 : Nat) (x3 : Int32) : Option (Unit × ns_St) := cl2 (g_N_pass σ a1) fun r621 σ620 => cl2 (g_M_pass σ620 a2) fun r623 σ622 => ite2 (r621 = r623) (bnd (x3 + 6) fun z625 => kh18 σ622 a1 a2 z625) (none)
def g_law_803 (xs : Nat → Int32) (L : Nat) (kh18 : ns_St → Nat → Nat → Int32 → Option (Unit × ns_St)) (σ : ns_St) (a1 : Nat) (a2 : Nat) (x3 : Int32) : Option (Unit × ns_St) := grd (ns_in (x3 + (1 : Int32)) L) <| grd (ns_in (x3 + (2 : Int32)) L) <| cl2 (g_N_muleOf σ a1 (xs (ns_ix (x3 + (1 : Int32)))) (xs (ns_ix (x3 + (2 : Int32))))) fun r629 σ628 => grd (ns_in (x3 + (1 : Int32)) L) <| grd (ns_in (x3 + (2 : Int32)) L) <| cl2 (g_M_muleOf σ628 a2 (xs (ns_ix (x3 + (1 : Int32)))) (xs (ns_ix (x3 + (2 : Int32))))) fun r633 σ632 => ite2 (r629 = r633) (bnd (x3 + 6) fun z635 => kh18 σ632 a1 a2 z635) (none)
def g_law_836 (xs : Nat → Int32) (L : Nat) (kh18 : ns_St → Nat → Nat → Int32 → Option (Unit × ns_St)) (σ : ns_St) (a1 : Nat) (a2 : Nat) (x3 : Int32) : Option (Unit × ns_St) := grd (ns_in (x3 + (1 : Int32)) L) <| cl2 (g_N_placeOf σ a1 (xs (ns_ix (x3 + (1 : Int32))))) fun r638 σ637 => grd (ns_in (x3 + (1 : Int32)) L) <| cl2 (g_M_placeOf σ637 a2 (xs (ns_ix (x3 + (1 : Int32))))) fun r641 σ640 => ite2 (r638 = r641) (bnd (x3 + 6) fun z643 => kh18 σ640 a1 a2 z643) (none)
def g_law_859 (xs : Nat → Int32) (L : Nat) (kh18 : ns_St → Nat → Nat → Int32 → Option (Unit × ns_St)) (σ : ns_St) (a1 : Nat) (a2 : Nat) (x3 : Int32) : Option (Unit × ns_St) := grd (ns_in (x3 + (1 : Int32)) L) <| grd (ns_in (x3 + (2 : Int32)) L) <| cl2 (g_N_stops σ a1 (xs (ns_ix (x3 + (1 : Int32)))) (xs (ns_ix (x3 + (2 : Int32))))) fun r647 σ646 => grd (ns_in (x3 + (1 : Int32)) L) <| grd (ns_in (x3 + (2 : Int32)) L) <| cl2 (g_M_stops σ646 a2 (xs (ns_ix (x3 + (1 : Int32)))) (xs (ns_ix (x3 + (2 : Int32))))) fun r651 σ650 => ite2 (r647 = r651) (bnd (x3 + 6) fun z653 => kh18 σ650 a1 a2 z653) (none)
def g_law_892 (xs : Nat → Int32) (L : Nat) (kh18 : ns_St → Nat → Nat → Int32 → Option (Unit × ns_St)) (σ : ns_St) (a1 : Nat) (a2 : Nat) (x3 : Int32) : Option (Unit × ns_St) := grd (ns_in (x3 + (1 : Int32)) L) <| cl2 (g_N_minutes σ a1 (xs (ns_ix (x3 + (1 : Int32))))) fun r656 σ655 => grd (ns_in (x3 + (1 : Int32)) L) <| cl2 (g_M_minutes σ655 a2 (xs (ns_ix (x3 + (1 : Int32))))) fun r659 σ658 => ite2 (r656 = r659) (bnd (x3 + 6) fun z661 => kh18 σ658 a1 a2 z661) (none)
def g_law_915 (xs : Nat → Int32) (L : Nat) (kh18 : ns_St → Nat → Nat → Int32 → Option (Unit × ns_St)) (σ : ns_St) (a1 : Nat) (a2 : Nat) (x3 : Int32) : Option (Unit × ns_St) := grd (ns_in (x3 + (1 : Int32)) L) <| grd (ns_in (x3 + (2 : Int32)) L) <| cl2 (g_N_after σ a1 (xs (ns_ix (x3 + (1 : Int32)))) (xs (ns_ix (x3 + (2 : Int32))))) fun r665 σ664 => grd (ns_in (x3 + (1 : Int32)) L) <| grd (ns_in (x3 + (2 : Int32)) L) <| cl2 (g_M_after σ664 a2 (xs (ns_ix (x3 + (1 : Int32)))) (xs (ns_ix (x3 + (2 : Int32))))) fun r669 σ668 => ite2 (r665 = r669) (bnd (x3 + 6) fun z671 => kh18 σ668 a1 a2 z671) (none)
def g_law_948 (xs : Nat → Int32) (L : Nat) (kh18 : ns_St → Nat → Nat → Int32 → Option (Unit × ns_St)) (σ : ns_St) (a1 : Nat) (a2 : Nat) (x3 : Int32) : Option (Unit × ns_St) := grd (ns_in (x3 + (1 : Int32)) L) <| cl2 (g_N_good σ a1 (xs (ns_ix (x3 + (1 : Int32))))) fun r674 σ673 => grd (ns_in (x3 + (1 : Int32)) L) <| cl2 (g_M_good σ673 a2 (xs (ns_ix (x3 + (1 : Int32))))) fun r677 σ676 => ite2 (r674 = r677) (bnd (x3 + 6) fun z679 => kh18 σ676 a1 a2 z679) (none)
def g_law_971 (xs : Nat → Int32) (L : Nat) (kh18 : ns_St → Nat → Nat → Int32 → Option (Unit × ns_St)) (σ : ns_St) (a1 : Nat) (a2 : Nat) (x3 : Int32) : Option (Unit × ns_St) := grd (ns_in (x3 + (1 : Int32)) L) <| cl2 (g_N_falls σ a1 (xs (ns_ix (x3 + (1 : Int32))))) fun r682 σ681 => grd (ns_in (x3 + (1 : Int32)) L) <| cl2 (g_M_falls σ681 a2 (xs (ns_ix (x3 + (1 : Int32))))) fun r685 σ684 => ite2 (r682 = r685) (bnd (x3 + 6) fun z687 => kh18 σ684 a1 a2 z687) (none)
def g_law_994 (xs : Nat → Int32) (L : Nat) (kh18 : ns_St → Nat → Nat → Int32 → Option (Unit × ns_St)) (σ : ns_St) (a1 : Nat) (a2 : Nat) (x3 : Int32) : Option (Unit × ns_St) := grd (ns_in (x3 + (1 : Int32)) L) <| cl2 (g_N_missed σ a1 (xs (ns_ix (x3 + (1 : Int32))))) fun r690 σ689 => grd (ns_in (x3 + (1 : Int32)) L) <| cl2 (g_M_missed σ689 a2 (xs (ns_ix (x3 + (1 : Int32))))) fun r693 σ692 => ite2 (r690 = r693) (bnd (x3 + 6) fun z695 => kh18 σ692 a1 a2 z695) (none)
def g_law_1017 (xs : Nat → Int32) (L : Nat) (kh18 : ns_St → Nat → Nat → Int32 → Option (Unit × ns_St)) (σ : ns_St) (a1 : Nat) (a2 : Nat) (x3 : Int32) : Option (Unit × ns_St) := grd (ns_in (x3 + (1 : Int32)) L) <| grd (ns_in (x3 + (2 : Int32)) L) <| cl2 (g_N_turns σ a1 (xs (ns_ix (x3 + (1 : Int32)))) (xs (ns_ix (x3 + (2 : Int32))))) fun r699 σ698 => grd (ns_in (x3 + (1 : Int32)) L) <| grd (ns_in (x3 + (2 : Int32)) L) <| cl2 (g_M_turns σ698 a2 (xs (ns_ix (x3 + (1 : Int32)))) (xs (ns_ix (x3 + (2 : Int32))))) fun r703 σ702 => ite2 (r699 = r703) (bnd (x3 + 6) fun z705 => kh18 σ702 a1 a2 z705) (none)
def g_law_1050 (xs : Nat → Int32) (L : Nat) (kh18 : ns_St → Nat → Nat → Int32 → Option (Unit × ns_St)) (σ : ns_St) (a1 : Nat) (a2 : Nat) (x3 : Int32) : Option (Unit × ns_St) := grd (ns_in (x3 + (1 : Int32)) L) <| grd (ns_in (x3 + (2 : Int32)) L) <| grd (ns_in (x3 + (3 : Int32)) L) <| cl2 (g_N_roped σ a1 (xs (ns_ix (x3 + (1 : Int32)))) (xs (ns_ix (x3 + (2 : Int32)))) (xs (ns_ix (x3 + (3 : Int32))))) fun r710 σ709 => grd (ns_in (x3 + (1 : Int32)) L) <| grd (ns_in (x3 + (2 : Int32)) L) <| grd (ns_in (x3 + (3 : Int32)) L) <| cl2 (g_M_roped σ709 a2 (xs (ns_ix (x3 + (1 : Int32)))) (xs (ns_ix (x3 + (2 : Int32)))) (xs (ns_ix (x3 + (3 : Int32))))) fun r715 σ714 => ite2 (r710 = r715) (bnd (x3 + 6) fun z717 => kh18 σ714 a1 a2 z717) (none)
def g_law_1093 (xs : Nat → Int32) (L : Nat) (kh18 : ns_St → Nat → Nat → Int32 → Option (Unit × ns_St)) (σ : ns_St) (a1 : Nat) (a2 : Nat) (x3 : Int32) : Option (Unit × ns_St) := grd (ns_in (x3 + (1 : Int32)) L) <| grd (ns_in (x3 + (2 : Int32)) L) <| cl2 (g_N_meets σ a1 (xs (ns_ix (x3 + (1 : Int32)))) (xs (ns_ix (x3 + (2 : Int32))))) fun r721 σ720 => grd (ns_in (x3 + (1 : Int32)) L) <| grd (ns_in (x3 + (2 : Int32)) L) <| cl2 (g_M_meets σ720 a2 (xs (ns_ix (x3 + (1 : Int32)))) (xs (ns_ix (x3 + (2 : Int32))))) fun r725 σ724 => ite2 (r721 = r725) (bnd (x3 + 6) fun z727 => kh18 σ724 a1 a2 z727) (none)
def g_law_1126 (xs : Nat → Int32) (L : Nat) (kh18 : ns_St → Nat → Nat → Int32 → Option (Unit × ns_St)) (σ : ns_St) (a1 : Nat) (a2 : Nat) (x3 : Int32) : Option (Unit × ns_St) := cl2 (g_N_last σ a1) fun r729 σ728 => cl2 (g_M_last σ728 a2) fun r731 σ730 => ite2 (r729 = r731) (bnd (x3 + 6) fun z733 => kh18 σ730 a1 a2 z733) (none)
def g_law_1139 (xs : Nat → Int32) (L : Nat) (kh18 : ns_St → Nat → Nat → Int32 → Option (Unit × ns_St)) (σ : ns_St) (a1 : Nat) (a2 : Nat) (x3 : Int32) : Option (Unit × ns_St) := grd (ns_in (x3 + (1 : Int32)) L) <| grd (ns_in (x3 + (2 : Int32)) L) <| cl2 (g_N_train σ a1 (xs (ns_ix (x3 + (1 : Int32)))) (xs (ns_ix (x3 + (2 : Int32))))) fun r737 σ736 => grd (ns_in (x3 + (1 : Int32)) L) <| grd (ns_in (x3 + (2 : Int32)) L) <| cl2 (g_M_train σ736 a2 (xs (ns_ix (x3 + (1 : Int32)))) (xs (ns_ix (x3 + (2 : Int32))))) fun r741 σ740 => ite2 (r737 = r741) (bnd (x3 + 6) fun z743 => kh18 σ740 a1 a2 z743) (none)
def g_law_1172 (xs : Nat → Int32) (L : Nat) (kh18 : ns_St → Nat → Nat → Int32 → Option (Unit × ns_St)) (σ : ns_St) (a1 : Nat) (a2 : Nat) (x3 : Int32) : Option (Unit × ns_St) := grd (ns_in (x3 + (1 : Int32)) L) <| cl2 (g_N_crowd σ a1 (xs (ns_ix (x3 + (1 : Int32))))) fun r746 σ745 => grd (ns_in (x3 + (1 : Int32)) L) <| cl2 (g_M_crowd σ745 a2 (xs (ns_ix (x3 + (1 : Int32))))) fun r749 σ748 => ite2 (r746 = r749) (bnd (x3 + 6) fun z751 => kh18 σ748 a1 a2 z751) (none)
def g_law_1195 (xs : Nat → Int32) (L : Nat) (kh18 : ns_St → Nat → Nat → Int32 → Option (Unit × ns_St)) (σ : ns_St) (a1 : Nat) (a2 : Nat) (x3 : Int32) : Option (Unit × ns_St) := grd (ns_in (x3 + (1 : Int32)) L) <| cl2 (g_N_best σ a1 (xs (ns_ix (x3 + (1 : Int32))))) fun r754 σ753 => grd (ns_in (x3 + (1 : Int32)) L) <| cl2 (g_M_best σ753 a2 (xs (ns_ix (x3 + (1 : Int32))))) fun r757 σ756 => ite2 (r754 = r757) (bnd (x3 + 6) fun z759 => kh18 σ756 a1 a2 z759) (none)
def g_law_1218 (xs : Nat → Int32) (L : Nat) (kh18 : ns_St → Nat → Nat → Int32 → Option (Unit × ns_St)) (σ : ns_St) (a1 : Nat) (a2 : Nat) (x3 : Int32) : Option (Unit × ns_St) := grd (ns_in (x3 + (1 : Int32)) L) <| cl2 (g_N_stones σ a1 (xs (ns_ix (x3 + (1 : Int32))))) fun r762 σ761 => grd (ns_in (x3 + (1 : Int32)) L) <| cl2 (g_M_stones σ761 a2 (xs (ns_ix (x3 + (1 : Int32))))) fun r765 σ764 => ite2 (r762 = r765) (bnd (x3 + 6) fun z767 => kh18 σ764 a1 a2 z767) (none)
def g_law_1241 (xs : Nat → Int32) (L : Nat) (kh18 : ns_St → Nat → Nat → Int32 → Option (Unit × ns_St)) (σ : ns_St) (a1 : Nat) (a2 : Nat) (x3 : Int32) : Option (Unit × ns_St) := grd (ns_in (x3 + (1 : Int32)) L) <| grd (ns_in (x3 + (2 : Int32)) L) <| grd (ns_in (x3 + (3 : Int32)) L) <| cl2 (g_N_numbers σ a1 (xs (ns_ix (x3 + (1 : Int32)))) (xs (ns_ix (x3 + (2 : Int32)))) (xs (ns_ix (x3 + (3 : Int32))))) fun r772 σ771 => grd (ns_in (x3 + (1 : Int32)) L) <| grd (ns_in (x3 + (2 : Int32)) L) <| grd (ns_in (x3 + (3 : Int32)) L) <| cl2 (g_M_numbers σ771 a2 (xs (ns_ix (x3 + (1 : Int32)))) (xs (ns_ix (x3 + (2 : Int32)))) (xs (ns_ix (x3 + (3 : Int32))))) fun r777 σ776 => ite2 (r772 = r777) (bnd (x3 + 6) fun z779 => kh18 σ776 a1 a2 z779) (none)
def g_law_1284 (xs : Nat → Int32) (L : Nat) (kh18 : ns_St → Nat → Nat → Int32 → Option (Unit × ns_St)) (σ : ns_St) (a1 : Nat) (a2 : Nat) (x3 : Int32) : Option (Unit × ns_St) := grd (ns_in (x3 + (1 : Int32)) L) <| grd (ns_in (x3 + (2 : Int32)) L) <| cl2 (g_N_sure σ a1 (xs (ns_ix (x3 + (1 : Int32)))) (xs (ns_ix (x3 + (2 : Int32))))) fun r783 σ782 => grd (ns_in (x3 + (1 : Int32)) L) <| grd (ns_in (x3 + (2 : Int32)) L) <| cl2 (g_M_sure σ782 a2 (xs (ns_ix (x3 + (1 : Int32)))) (xs (ns_ix (x3 + (2 : Int32))))) fun r787 σ786 => ite2 (r783 = r787) (bnd (x3 + 6) fun z789 => kh18 σ786 a1 a2 z789) (none)
def g_law_1317 (xs : Nat → Int32) (L : Nat) (kh18 : ns_St → Nat → Nat → Int32 → Option (Unit × ns_St)) (σ : ns_St) (a1 : Nat) (a2 : Nat) (x3 : Int32) : Option (Unit × ns_St) := grd (ns_in (x3 + (1 : Int32)) L) <| grd (ns_in (x3 + (2 : Int32)) L) <| grd (ns_in (x3 + (3 : Int32)) L) <| cl2 (g_N_judge σ a1 (xs (ns_ix (x3 + (1 : Int32)))) (xs (ns_ix (x3 + (2 : Int32)))) (xs (ns_ix (x3 + (3 : Int32))))) fun r794 σ793 => grd (ns_in (x3 + (1 : Int32)) L) <| grd (ns_in (x3 + (2 : Int32)) L) <| grd (ns_in (x3 + (3 : Int32)) L) <| cl2 (g_M_judge σ793 a2 (xs (ns_ix (x3 + (1 : Int32)))) (xs (ns_ix (x3 + (2 : Int32)))) (xs (ns_ix (x3 + (3 : Int32))))) fun r799 σ798 => ite2 (r794 = r799) (bnd (x3 + 6) fun z801 => kh18 σ798 a1 a2 z801) (none)
def g_law_1360 (xs : Nat → Int32) (L : Nat) (kh18 : ns_St → Nat → Nat → Int32 → Option (Unit × ns_St)) (σ : ns_St) (a1 : Nat) (a2 : Nat) (x3 : Int32) : Option (Unit × ns_St) := cl2 (g_N_worst σ a1) fun r803 σ802 => cl2 (g_M_worst σ802 a2) fun r805 σ804 => ite2 (r803 = r805) (bnd (x3 + 6) fun z807 => kh18 σ804 a1 a2 z807) (none)
def g_law_1373 (xs : Nat → Int32) (L : Nat) (kh18 : ns_St → Nat → Nat → Int32 → Option (Unit × ns_St)) (σ : ns_St) (a1 : Nat) (a2 : Nat) (x3 : Int32) : Option (Unit × ns_St) := grd (ns_in (x3 + (1 : Int32)) L) <| cl2 (g_N_lucky σ a1 (xs (ns_ix (x3 + (1 : Int32))))) fun r810 σ809 => grd (ns_in (x3 + (1 : Int32)) L) <| cl2 (g_M_lucky σ809 a2 (xs (ns_ix (x3 + (1 : Int32))))) fun r813 σ812 => ite2 (r810 = r813) (bnd (x3 + 6) fun z815 => kh18 σ812 a1 a2 z815) (none)
def g_law_1396 (xs : Nat → Int32) (L : Nat) (kh18 : ns_St → Nat → Nat → Int32 → Option (Unit × ns_St)) (σ : ns_St) (a1 : Nat) (a2 : Nat) (x3 : Int32) : Option (Unit × ns_St) := grd (ns_in (x3 + (1 : Int32)) L) <| grd (ns_in (x3 + (2 : Int32)) L) <| cl2 (g_N_goes σ a1 (xs (ns_ix (x3 + (1 : Int32)))) (xs (ns_ix (x3 + (2 : Int32))))) fun r819 σ818 => grd (ns_in (x3 + (1 : Int32)) L) <| grd (ns_in (x3 + (2 : Int32)) L) <| cl2 (g_M_goes σ818 a2 (xs (ns_ix (x3 + (1 : Int32)))) (xs (ns_ix (x3 + (2 : Int32))))) fun r823 σ822 => ite2 (r819 = r823) (bnd (x3 + 6) fun z825 => kh18 σ822 a1 a2 z825) (none)
def g_law_1429 (xs : Nat → Int32) (L : Nat) (kh18 : ns_St → Nat → Nat → Int32 → Option (Unit × ns_St)) (σ : ns_St) (a1 : Nat) (a2 : Nat) (x3 : Int32) : Option (Unit × ns_St) := grd (ns_in (x3 + (1 : Int32)) L) <| cl2 (g_N_turn σ a1 (xs (ns_ix (x3 + (1 : Int32))))) fun r828 σ827 => grd (ns_in (x3 + (1 : Int32)) L) <| cl2 (g_M_turn σ827 a2 (xs (ns_ix (x3 + (1 : Int32))))) fun r831 σ830 => ite2 (r828 = r831) (bnd (x3 + 6) fun z833 => kh18 σ830 a1 a2 z833) (none)
def g_law_1452 (xs : Nat → Int32) (L : Nat) (kh18 : ns_St → Nat → Nat → Int32 → Option (Unit × ns_St)) (σ : ns_St) (a1 : Nat) (a2 : Nat) (x3 : Int32) : Option (Unit × ns_St) := cl2 (g_N_day σ a1) fun r835 σ834 => cl2 (g_M_day σ834 a2) fun r837 σ836 => ite2 (r835 = r837) (bnd (x3 + 6) fun z839 => kh18 σ836 a1 a2 z839) (none)
def g_law_1465 (xs : Nat → Int32) (L : Nat) (kh18 : ns_St → Nat → Nat → Int32 → Option (Unit × ns_St)) (σ : ns_St) (a1 : Nat) (a2 : Nat) (x3 : Int32) : Option (Unit × ns_St) := cl2 (g_N_home σ a1) fun r841 σ840 => cl2 (g_M_home σ840 a2) fun r843 σ842 => ite2 (r841 = r843) (bnd (x3 + 6) fun z845 => kh18 σ842 a1 a2 z845) (none)
def g_law_1478 (xs : Nat → Int32) (L : Nat) (kh18 : ns_St → Nat → Nat → Int32 → Option (Unit × ns_St)) (σ : ns_St) (a1 : Nat) (a2 : Nat) (x3 : Int32) : Option (Unit × ns_St) := grd (ns_in (x3 + (1 : Int32)) L) <| cl2 (g_N_seed σ a1 (xs (ns_ix (x3 + (1 : Int32))))) fun r848 σ847 => grd (ns_in (x3 + (1 : Int32)) L) <| cl2 (g_M_seed σ847 a2 (xs (ns_ix (x3 + (1 : Int32))))) fun r851 σ850 => ite2 (r848 = r851) (bnd (x3 + 6) fun z853 => kh18 σ850 a1 a2 z853) (none)
def g_law_1501 (xs : Nat → Int32) (L : Nat) (kh18 : ns_St → Nat → Nat → Int32 → Option (Unit × ns_St)) (σ : ns_St) (a1 : Nat) (a2 : Nat) (x3 : Int32) : Option (Unit × ns_St) := cl2 (g_N_image σ a1) fun r855 σ854 => cl2 (g_M_image σ854 a2) fun r857 σ856 => ite2 (r855 = r857) (bnd (x3 + 6) fun z859 => kh18 σ856 a1 a2 z859) (none)
def g_law_1514 (xs : Nat → Int32) (L : Nat) (kh18 : ns_St → Nat → Nat → Int32 → Option (Unit × ns_St)) (σ : ns_St) (a1 : Nat) (a2 : Nat) (x3 : Int32) : Option (Unit × ns_St) := cl2 (g_N_back σ a1) fun r861 σ860 => cl2 (g_M_back σ860 a2) fun r863 σ862 => ite2 (r861 = r863) (bnd (x3 + 6) fun z865 => kh18 σ862 a1 a2 z865) (none)
def g_law_1527 (xs : Nat → Int32) (L : Nat) (kh18 : ns_St → Nat → Nat → Int32 → Option (Unit × ns_St)) (σ : ns_St) (a1 : Nat) (a2 : Nat) (x3 : Int32) : Option (Unit × ns_St) := grd (ns_in (x3 + (1 : Int32)) L) <| cl2 (g_N_status σ a1 (xs (ns_ix (x3 + (1 : Int32))))) fun r868 σ867 => grd (ns_in (x3 + (1 : Int32)) L) <| cl2 (g_M_status σ867 a2 (xs (ns_ix (x3 + (1 : Int32))))) fun r871 σ870 => ite2 (r868 = r871) (bnd (x3 + 6) fun z873 => kh18 σ870 a1 a2 z873) (none)
def g_law_18 (xs : Nat → Int32) (L : Nat)  : Nat → ns_St → Nat → Nat → Int32 → Option (Unit × ns_St)
  | 0, _, _, _, _ => none
  | f + 1, σ, a1, a2, x3 => ite2 (((Int32.ofNat L) - (6 : Int32)) < x3) (some ((), σ)) (grd (ns_in x3 L) <| bnd ((xs (ns_ix x3)) &&& (63 : Int32)) fun z876 => ite2 (z876 = 0) (g_law_228 xs L (g_law_18 xs L f) σ a1 a2 x3) (ite2 (z876 = 1) (g_law_271 xs L (g_law_18 xs L f) σ a1 a2 x3) (ite2 (z876 = 2) (g_law_344 xs L (g_law_18 xs L f) σ a1 a2 x3) (ite2 (z876 = 3) (g_law_407 xs L (g_law_18 xs L f) σ a1 a2 x3) (ite2 (z876 = 4) (g_law_441 xs L (g_law_18 xs L f) σ a1 a2 x3) (ite2 (z876 = 5) (g_law_464 xs L (g_law_18 xs L f) σ a1 a2 x3) (ite2 (z876 = 6) (g_law_497 xs L (g_law_18 xs L f) σ a1 a2 x3) (ite2 (z876 = 7) (g_law_530 xs L (g_law_18 xs L f) σ a1 a2 x3) (ite2 (z876 = 8) (g_law_553 xs L (g_law_18 xs L f) σ a1 a2 x3) (ite2 (z876 = 9) (g_law_612 xs L (g_law_18 xs L f) σ a1 a2 x3) (ite2 (z876 = 10) (g_law_655 xs L (g_law_18 xs L f) σ a1 a2 x3) (ite2 (z876 = 11) (g_law_698 xs L (g_law_18 xs L f) σ a1 a2 x3) (ite2 (z876 = 12) (g_law_731 xs L (g_law_18 xs L f) σ a1 a2 x3) (ite2 (z876 = 13) (g_law_754 xs L (g_law_18 xs L f) σ a1 a2 x3) (ite2 (z876 = 14) (g_law_777 xs L (g_law_18 xs L f) σ a1 a2 x3) (ite2 (z876 = 15) (g_law_790 xs L (g_law_18 xs L f) σ a1 a2 x3) (ite2 (z876 = 16) (g_law_803 xs L (g_law_18 xs L f) σ a1 a2 x3) (ite2 (z876 = 17) (g_law_836 xs L (g_law_18 xs L f) σ a1 a2 x3) (ite2 (z876 = 18) (g_law_859 xs L (g_law_18 xs L f) σ a1 a2 x3) (ite2 (z876 = 19) (g_law_892 xs L (g_law_18 xs L f) σ a1 a2 x3) (ite2 (z876 = 20) (g_law_915 xs L (g_law_18 xs L f) σ a1 a2 x3) (ite2 (z876 = 21) (g_law_948 xs L (g_law_18 xs L f) σ a1 a2 x3) (ite2 (z876 = 22) (g_law_971 xs L (g_law_18 xs L f) σ a1 a2 x3) (ite2 (z876 = 23) (g_law_994 xs L (g_law_18 xs L f) σ a1 a2 x3) (ite2 (z876 = 24) (g_law_1017 xs L (g_law_18 xs L f) σ a1 a2 x3) (ite2 (z876 = 25) (g_law_1050 xs L (g_law_18 xs L f) σ a1 a2 x3) (ite2 (z876 = 26) (g_law_1093 xs L (g_law_18 xs L f) σ a1 a2 x3) (ite2 (z876 = 27) (g_law_1126 xs L (g_law_18 xs L f) σ a1 a2 x3) (ite2 (z876 = 28) (g_law_1139 xs L (g_law_18 xs L f) σ a1 a2 x3) (ite2 (z876 = 29) (g_law_1172 xs L (g_law_18 xs L f) σ a1 a2 x3) (ite2 (z876 = 30) (g_law_1195 xs L (g_law_18 xs L f) σ a1 a2 x3) (ite2 (z876 = 31) (g_law_1218 xs L (g_law_18 xs L f) σ a1 a2 x3) (ite2 (z876 = 32) (g_law_1241 xs L (g_law_18 xs L f) σ a1 a2 x3) (ite2 (z876 = 33) (g_law_1284 xs L (g_law_18 xs L f) σ a1 a2 x3) (ite2 (z876 = 34) (g_law_1317 xs L (g_law_18 xs L f) σ a1 a2 x3) (ite2 (z876 = 35) (g_law_1360 xs L (g_law_18 xs L f) σ a1 a2 x3) (ite2 (z876 = 36) (g_law_1373 xs L (g_law_18 xs L f) σ a1 a2 x3) (ite2 (z876 = 37) (g_law_1396 xs L (g_law_18 xs L f) σ a1 a2 x3) (ite2 (z876 = 38) (g_law_1429 xs L (g_law_18 xs L f) σ a1 a2 x3) (ite2 (z876 = 39) (g_law_1452 xs L (g_law_18 xs L f) σ a1 a2 x3) (ite2 (z876 = 40) (g_law_1465 xs L (g_law_18 xs L f) σ a1 a2 x3) (ite2 (z876 = 41) (g_law_1478 xs L (g_law_18 xs L f) σ a1 a2 x3) (ite2 (z876 = 42) (g_law_1501 xs L (g_law_18 xs L f) σ a1 a2 x3) (ite2 (z876 = 43) (g_law_1514 xs L (g_law_18 xs L f) σ a1 a2 x3) (ite2 (z876 = 44) (g_law_1527 xs L (g_law_18 xs L f) σ a1 a2 x3) (bnd (x3 + 6) fun z922 => (g_law_18 xs L f) σ a1 a2 z922))))))))))))))))))))))))))))))))))))))))))))))
theorem t_law_228 (G : ns_G) (l : Launch) {p : Program} {e : Env} {s : State} {m : MethodId} {below : List Frame} {meth : Method} {c : Code} {b L : Nat} {xs : Nat → Int32} (C : ns_Cx G p s m #[Value.ref b] meth c code "NinthStepLaw" 4) (hr : meth.sig.returnType = ret) (hX : va_X b L xs s s.heap) (hbl : b < s.heap.size) (hG : G.1 = s.heap.size) {σ' : ns_St} {kh18 : ns_St → Nat → Nat → Int32 → Option (Unit × ns_St)} (hkh18 : ∀ (σ : ns_St) (a1 : Nat) (a2 : Nat) (x3 : Int32), ns_kd a1 = 8 → ns_kd a2 = 9 → kh18 σ a1 a2 x3 = some ((), σ') → VV G p l e room_1 s m #[Value.ref b] below meth c 4 82 14211 (lw_Z below #[Value.ref b] s) ns_N σ 18 [(0, .ref b), (1, .ref (G.1 + a1)), (2, .ref (G.1 + a2)), (3, .int x3)] []) (σ : ns_St) (a1 : Nat) (a2 : Nat) (x3 : Int32) (hk_a1 : ns_kd a1 = 8) (hk_a2 : ns_kd a2 = 9) (hf : g_law_228 xs L kh18 σ a1 a2 x3 = some ((), σ')) : VV G p l e room_1 s m #[Value.ref b] below meth c 4 82 14211 (lw_Z below #[Value.ref b] s) ns_N σ 228 [(0, .ref b), (1, .ref (G.1 + a1)), (2, .ref (G.1 + a2)), (3, .int x3)] [] := by
  unfold g_law_228 at hf
  refine v_aload_n C 1 1 rfl 229 rfl (by decide +kernel) ?_
  refine v_aload_n C 0 0 rfl 230 rfl (by decide +kernel) ?_
  refine v_iload_n C 3 3 rfl 231 rfl (by decide +kernel) ?_
  refine v_iconst C (1) (1) (by decide) 232 rfl (by decide +kernel) ?_
  refine v_iadd C 233 rfl (by decide +kernel) ?_
  obtain ⟨hi462, hf⟩ := grd_e hf
  refine v_sld C hX hbl hG hi462 234 rfl (by decide +kernel) ?_
  refine v_aload_n C 0 0 rfl 235 rfl (by decide +kernel) ?_
  refine v_iload_n C 3 3 rfl 236 rfl (by decide +kernel) ?_
  refine v_iconst C (2) (2) (by decide) 237 rfl (by decide +kernel) ?_
  refine v_iadd C 238 rfl (by decide +kernel) ?_
  obtain ⟨hi463, hf⟩ := grd_e hf
  refine v_sld C hX hbl hG hi463 239 rfl (by decide +kernel) ?_
  refine v_aload_n C 0 0 rfl 240 rfl (by decide +kernel) ?_
  refine v_iload_n C 3 3 rfl 241 rfl (by decide +kernel) ?_
  refine v_iconst C (3) (3) (by decide) 242 rfl (by decide +kernel) ?_
  refine v_iadd C 243 rfl (by decide +kernel) ?_
  obtain ⟨hi464, hf⟩ := grd_e hf
  refine v_sld C hX hbl hG hi464 244 rfl (by decide +kernel) ?_
  obtain ⟨r466, σ465, hcr466, hf⟩ := cl2_e hf
  refine v_cV C 8 rfl (ns_kd_lt hk_a1 (by decide)) hk_a1 (by decide) [.int (xs (ns_ix (x3 + (1 : Int32)))), .int (xs (ns_ix (x3 + (2 : Int32)))), .int (xs (ns_ix (x3 + (3 : Int32))))] [] (c_N_row G l σ a1 (xs (ns_ix (x3 + (1 : Int32)))) (xs (ns_ix (x3 + (2 : Int32)))) (xs (ns_ix (x3 + (3 : Int32)))) hcr466) 13 3 tw_327 tw_324 tw_325 tw_326 tw_1 hd_N_row rfl ⟨(Nat.le_of_ble_eq_true rfl), (Nat.le_of_ble_eq_true rfl)⟩ ⟨(Nat.le_of_ble_eq_true rfl), (Nat.le_of_ble_eq_true rfl)⟩ (Nat.le_of_ble_eq_true rfl) rfl 247 rfl (by decide +kernel) [.int r466] rfl ?_
  refine v_aload_n C 2 2 rfl 248 rfl (by decide +kernel) ?_
  refine v_aload_n C 0 0 rfl 249 rfl (by decide +kernel) ?_
  refine v_iload_n C 3 3 rfl 250 rfl (by decide +kernel) ?_
  refine v_iconst C (1) (1) (by decide) 251 rfl (by decide +kernel) ?_
  refine v_iadd C 252 rfl (by decide +kernel) ?_
  obtain ⟨hi467, hf⟩ := grd_e hf
  refine v_sld C hX hbl hG hi467 253 rfl (by decide +kernel) ?_
  refine v_aload_n C 0 0 rfl 254 rfl (by decide +kernel) ?_
  refine v_iload_n C 3 3 rfl 255 rfl (by decide +kernel) ?_
  refine v_iconst C (2) (2) (by decide) 256 rfl (by decide +kernel) ?_
  refine v_iadd C 257 rfl (by decide +kernel) ?_
  obtain ⟨hi468, hf⟩ := grd_e hf
  refine v_sld C hX hbl hG hi468 258 rfl (by decide +kernel) ?_
  refine v_aload_n C 0 0 rfl 259 rfl (by decide +kernel) ?_
  refine v_iload_n C 3 3 rfl 260 rfl (by decide +kernel) ?_
  refine v_iconst C (3) (3) (by decide) 261 rfl (by decide +kernel) ?_
  refine v_iadd C 262 rfl (by decide +kernel) ?_
  obtain ⟨hi469, hf⟩ := grd_e hf
  refine v_sld C hX hbl hG hi469 263 rfl (by decide +kernel) ?_
  obtain ⟨r471, σ470, hcr471, hf⟩ := cl2_e hf
  refine v_cV C 9 rfl (ns_kd_lt hk_a2 (by decide)) hk_a2 (by decide) [.int (xs (ns_ix (x3 + (1 : Int32)))), .int (xs (ns_ix (x3 + (2 : Int32)))), .int (xs (ns_ix (x3 + (3 : Int32))))] [.int r466] (c_M_row G l σ465 a2 (xs (ns_ix (x3 + (1 : Int32)))) (xs (ns_ix (x3 + (2 : Int32)))) (xs (ns_ix (x3 + (3 : Int32)))) hcr471) 17 3 tw_1072 tw_1069 tw_1070 tw_1071 tw_10 hd_M_row rfl ⟨(Nat.le_of_ble_eq_true rfl), (Nat.le_of_ble_eq_true rfl)⟩ ⟨(Nat.le_of_ble_eq_true rfl), (Nat.le_of_ble_eq_true rfl)⟩ (Nat.le_of_ble_eq_true rfl) rfl 266 rfl (by decide +kernel) [.int r471, .int r466] rfl ?_
  refine v_icmp_eq C 1550 269 rfl (by decide +kernel) (fun h472 => ?_) (fun h472 => ?_)
  · have hf := ite2_t hf h472
    obtain ⟨z473, hz473, hf⟩ := bnd_e hf
    refine v_iinc C 3 (6) 3 z473 rfl (by rw [hz473]; rfl) [(3, .int z473), (0, .ref b), (1, .ref (G.1 + a1)), (2, .ref (G.1 + a2))] (by decide) rfl 1553 rfl (by decide +kernel) ?_
    refine v_goto C 18 (by decide +kernel) ?_
    refine v_sub [1, 2, 3, 0] rfl ?_
    exact hkh18 σ470 a1 a2 z473 hk_a1 hk_a2 hf
  · have hf := ite2_f hf h472
    cases hf
theorem t_law_271 (G : ns_G) (l : Launch) {p : Program} {e : Env} {s : State} {m : MethodId} {below : List Frame} {meth : Method} {c : Code} {b L : Nat} {xs : Nat → Int32} (C : ns_Cx G p s m #[Value.ref b] meth c code "NinthStepLaw" 4) (hr : meth.sig.returnType = ret) (hX : va_X b L xs s s.heap) (hbl : b < s.heap.size) (hG : G.1 = s.heap.size) {σ' : ns_St} {kh18 : ns_St → Nat → Nat → Int32 → Option (Unit × ns_St)} (hkh18 : ∀ (σ : ns_St) (a1 : Nat) (a2 : Nat) (x3 : Int32), ns_kd a1 = 8 → ns_kd a2 = 9 → kh18 σ a1 a2 x3 = some ((), σ') → VV G p l e room_1 s m #[Value.ref b] below meth c 4 82 14211 (lw_Z below #[Value.ref b] s) ns_N σ 18 [(0, .ref b), (1, .ref (G.1 + a1)), (2, .ref (G.1 + a2)), (3, .int x3)] []) (σ : ns_St) (a1 : Nat) (a2 : Nat) (x3 : Int32) (hk_a1 : ns_kd a1 = 8) (hk_a2 : ns_kd a2 = 9) (hf : g_law_271 xs L kh18 σ a1 a2 x3 = some ((), σ')) : VV G p l e room_1 s m #[Value.ref b] below meth c 4 82 14211 (lw_Z below #[Value.ref b] s) ns_N σ 271 [(0, .ref b), (1, .ref (G.1 + a1)), (2, .ref (G.1 + a2)), (3, .int x3)] [] := by
  unfold g_law_271 at hf
  refine v_aload_n C 1 1 rfl 272 rfl (by decide +kernel) ?_
  refine v_aload_n C 0 0 rfl 273 rfl (by decide +kernel) ?_
  refine v_iload_n C 3 3 rfl 274 rfl (by decide +kernel) ?_
  refine v_iconst C (1) (1) (by decide) 275 rfl (by decide +kernel) ?_
  refine v_iadd C 276 rfl (by decide +kernel) ?_
  obtain ⟨hi474, hf⟩ := grd_e hf
  refine v_sld C hX hbl hG hi474 277 rfl (by decide +kernel) ?_
  refine v_aload_n C 0 0 rfl 278 rfl (by decide +kernel) ?_
  refine v_iload_n C 3 3 rfl 279 rfl (by decide +kernel) ?_
  refine v_iconst C (2) (2) (by decide) 280 rfl (by decide +kernel) ?_
  refine v_iadd C 281 rfl (by decide +kernel) ?_
  obtain ⟨hi475, hf⟩ := grd_e hf
  refine v_sld C hX hbl hG hi475 282 rfl (by decide +kernel) ?_
  refine v_aload_n C 0 0 rfl 283 rfl (by decide +kernel) ?_
  refine v_iload_n C 3 3 rfl 284 rfl (by decide +kernel) ?_
  refine v_iconst C (3) (3) (by decide) 285 rfl (by decide +kernel) ?_
  refine v_iadd C 286 rfl (by decide +kernel) ?_
  obtain ⟨hi476, hf⟩ := grd_e hf
  refine v_sld C hX hbl hG hi476 287 rfl (by decide +kernel) ?_
  refine v_i2l C 288 rfl (by decide +kernel) ?_
  refine v_bipush C (32) (32) (by decide) 290 rfl (by decide +kernel) ?_
  refine v_lshl C 291 rfl (by decide +kernel) ?_
  refine v_aload_n C 0 0 rfl 292 rfl (by decide +kernel) ?_
  refine v_iload_n C 3 3 rfl 293 rfl (by decide +kernel) ?_
  refine v_iconst C (4) (4) (by decide) 294 rfl (by decide +kernel) ?_
  refine v_iadd C 295 rfl (by decide +kernel) ?_
  obtain ⟨hi477, hf⟩ := grd_e hf
  refine v_sld C hX hbl hG hi477 296 rfl (by decide +kernel) ?_
  refine v_i2l C 297 rfl (by decide +kernel) ?_
  refine v_ldc2 C 18 (4294967295) tw_1416 300 rfl (by decide +kernel) ?_
  refine v_land C 301 rfl (by decide +kernel) ?_
  refine v_lor C 302 rfl (by decide +kernel) ?_
  obtain ⟨r479, σ478, hcr479, hf⟩ := cl2_e hf
  refine v_cV C 8 rfl (ns_kd_lt hk_a1 (by decide)) hk_a1 (by decide) [.int (xs (ns_ix (x3 + (1 : Int32)))), .int (xs (ns_ix (x3 + (2 : Int32)))), .long ((((xs (ns_ix (x3 + (3 : Int32)))).toInt64) <<< ((32 : Int32).toInt64 &&& 63)) ||| (((xs (ns_ix (x3 + (4 : Int32)))).toInt64) &&& (4294967295 : Int64)))] [] (c_N_set G l σ a1 (xs (ns_ix (x3 + (1 : Int32)))) (xs (ns_ix (x3 + (2 : Int32)))) ((((xs (ns_ix (x3 + (3 : Int32)))).toInt64) <<< ((32 : Int32).toInt64 &&& 63)) ||| (((xs (ns_ix (x3 + (4 : Int32)))).toInt64) &&& (4294967295 : Int64))) hcr479) 20 3 tw_346 tw_343 tw_344 tw_345 tw_1 hd_N_set rfl ⟨(Nat.le_of_ble_eq_true rfl), (Nat.le_of_ble_eq_true rfl)⟩ ⟨(Nat.le_of_ble_eq_true rfl), (Nat.le_of_ble_eq_true rfl)⟩ (Nat.le_of_ble_eq_true rfl) rfl 305 rfl (by decide +kernel) [.int r479] rfl ?_
  refine v_aload_n C 2 2 rfl 306 rfl (by decide +kernel) ?_
  refine v_aload_n C 0 0 rfl 307 rfl (by decide +kernel) ?_
  refine v_iload_n C 3 3 rfl 308 rfl (by decide +kernel) ?_
  refine v_iconst C (1) (1) (by decide) 309 rfl (by decide +kernel) ?_
  refine v_iadd C 310 rfl (by decide +kernel) ?_
  obtain ⟨hi480, hf⟩ := grd_e hf
  refine v_sld C hX hbl hG hi480 311 rfl (by decide +kernel) ?_
  refine v_aload_n C 0 0 rfl 312 rfl (by decide +kernel) ?_
  refine v_iload_n C 3 3 rfl 313 rfl (by decide +kernel) ?_
  refine v_iconst C (2) (2) (by decide) 314 rfl (by decide +kernel) ?_
  refine v_iadd C 315 rfl (by decide +kernel) ?_
  obtain ⟨hi481, hf⟩ := grd_e hf
  refine v_sld C hX hbl hG hi481 316 rfl (by decide +kernel) ?_
  refine v_aload_n C 0 0 rfl 317 rfl (by decide +kernel) ?_
  refine v_iload_n C 3 3 rfl 318 rfl (by decide +kernel) ?_
  refine v_iconst C (3) (3) (by decide) 319 rfl (by decide +kernel) ?_
  refine v_iadd C 320 rfl (by decide +kernel) ?_
  obtain ⟨hi482, hf⟩ := grd_e hf
  refine v_sld C hX hbl hG hi482 321 rfl (by decide +kernel) ?_
  refine v_i2l C 322 rfl (by decide +kernel) ?_
  refine v_bipush C (32) (32) (by decide) 324 rfl (by decide +kernel) ?_
  refine v_lshl C 325 rfl (by decide +kernel) ?_
  refine v_aload_n C 0 0 rfl 326 rfl (by decide +kernel) ?_
  refine v_iload_n C 3 3 rfl 327 rfl (by decide +kernel) ?_
  refine v_iconst C (4) (4) (by decide) 328 rfl (by decide +kernel) ?_
  refine v_iadd C 329 rfl (by decide +kernel) ?_
  obtain ⟨hi483, hf⟩ := grd_e hf
  refine v_sld C hX hbl hG hi483 330 rfl (by decide +kernel) ?_
  refine v_i2l C 331 rfl (by decide +kernel) ?_
  refine v_ldc2 C 18 (4294967295) tw_1416 334 rfl (by decide +kernel) ?_
  refine v_land C 335 rfl (by decide +kernel) ?_
  refine v_lor C 336 rfl (by decide +kernel) ?_
  obtain ⟨r485, σ484, hcr485, hf⟩ := cl2_e hf
  refine v_cV C 9 rfl (ns_kd_lt hk_a2 (by decide)) hk_a2 (by decide) [.int (xs (ns_ix (x3 + (1 : Int32)))), .int (xs (ns_ix (x3 + (2 : Int32)))), .long ((((xs (ns_ix (x3 + (3 : Int32)))).toInt64) <<< ((32 : Int32).toInt64 &&& 63)) ||| (((xs (ns_ix (x3 + (4 : Int32)))).toInt64) &&& (4294967295 : Int64)))] [.int r479] (c_M_set G l σ478 a2 (xs (ns_ix (x3 + (1 : Int32)))) (xs (ns_ix (x3 + (2 : Int32)))) ((((xs (ns_ix (x3 + (3 : Int32)))).toInt64) <<< ((32 : Int32).toInt64 &&& 63)) ||| (((xs (ns_ix (x3 + (4 : Int32)))).toInt64) &&& (4294967295 : Int64))) hcr485) 24 3 tw_1083 tw_1080 tw_1081 tw_1082 tw_10 hd_M_set rfl ⟨(Nat.le_of_ble_eq_true rfl), (Nat.le_of_ble_eq_true rfl)⟩ ⟨(Nat.le_of_ble_eq_true rfl), (Nat.le_of_ble_eq_true rfl)⟩ (Nat.le_of_ble_eq_true rfl) rfl 339 rfl (by decide +kernel) [.int r485, .int r479] rfl ?_
  refine v_icmp_eq C 1550 342 rfl (by decide +kernel) (fun h486 => ?_) (fun h486 => ?_)
  · have hf := ite2_t hf h486
    obtain ⟨z487, hz487, hf⟩ := bnd_e hf
    refine v_iinc C 3 (6) 3 z487 rfl (by rw [hz487]; rfl) [(3, .int z487), (0, .ref b), (1, .ref (G.1 + a1)), (2, .ref (G.1 + a2))] (by decide) rfl 1553 rfl (by decide +kernel) ?_
    refine v_goto C 18 (by decide +kernel) ?_
    refine v_sub [1, 2, 3, 0] rfl ?_
    exact hkh18 σ484 a1 a2 z487 hk_a1 hk_a2 hf
  · have hf := ite2_f hf h486
    cases hf
theorem t_law_344 (G : ns_G) (l : Launch) {p : Program} {e : Env} {s : State} {m : MethodId} {below : List Frame} {meth : Method} {c : Code} {b L : Nat} {xs : Nat → Int32} (C : ns_Cx G p s m #[Value.ref b] meth c code "NinthStepLaw" 4) (hr : meth.sig.returnType = ret) (hX : va_X b L xs s s.heap) (hbl : b < s.heap.size) (hG : G.1 = s.heap.size) {σ' : ns_St} {kh18 : ns_St → Nat → Nat → Int32 → Option (Unit × ns_St)} (hkh18 : ∀ (σ : ns_St) (a1 : Nat) (a2 : Nat) (x3 : Int32), ns_kd a1 = 8 → ns_kd a2 = 9 → kh18 σ a1 a2 x3 = some ((), σ') → VV G p l e room_1 s m #[Value.ref b] below meth c 4 82 14211 (lw_Z below #[Value.ref b] s) ns_N σ 18 [(0, .ref b), (1, .ref (G.1 + a1)), (2, .ref (G.1 + a2)), (3, .int x3)] []) (σ : ns_St) (a1 : Nat) (a2 : Nat) (x3 : Int32) (hk_a1 : ns_kd a1 = 8) (hk_a2 : ns_kd a2 = 9) (hf : g_law_344 xs L kh18 σ a1 a2 x3 = some ((), σ')) : VV G p l e room_1 s m #[Value.ref b] below meth c 4 82 14211 (lw_Z below #[Value.ref b] s) ns_N σ 344 [(0, .ref b), (1, .ref (G.1 + a1)), (2, .ref (G.1 + a2)), (3, .int x3)] [] := by
  unfold g_law_344 at hf
  refine v_aload_n C 1 1 rfl 345 rfl (by decide +kernel) ?_
  refine v_aload_n C 0 0 rfl 346 rfl (by decide +kernel) ?_
  refine v_iload_n C 3 3 rfl 347 rfl (by decide +kernel) ?_
  refine v_iconst C (1) (1) (by decide) 348 rfl (by decide +kernel) ?_
  refine v_iadd C 349 rfl (by decide +kernel) ?_
  obtain ⟨hi488, hf⟩ := grd_e hf
  refine v_sld C hX hbl hG hi488 350 rfl (by decide +kernel) ?_
  refine v_aload_n C 0 0 rfl 351 rfl (by decide +kernel) ?_
  refine v_iload_n C 3 3 rfl 352 rfl (by decide +kernel) ?_
  refine v_iconst C (2) (2) (by decide) 353 rfl (by decide +kernel) ?_
  refine v_iadd C 354 rfl (by decide +kernel) ?_
  obtain ⟨hi489, hf⟩ := grd_e hf
  refine v_sld C hX hbl hG hi489 355 rfl (by decide +kernel) ?_
  refine v_aload_n C 0 0 rfl 356 rfl (by decide +kernel) ?_
  refine v_iload_n C 3 3 rfl 357 rfl (by decide +kernel) ?_
  refine v_iconst C (3) (3) (by decide) 358 rfl (by decide +kernel) ?_
  refine v_iadd C 359 rfl (by decide +kernel) ?_
  obtain ⟨hi490, hf⟩ := grd_e hf
  refine v_sld C hX hbl hG hi490 360 rfl (by decide +kernel) ?_
  refine v_aload_n C 0 0 rfl 361 rfl (by decide +kernel) ?_
  refine v_iload_n C 3 3 rfl 362 rfl (by decide +kernel) ?_
  refine v_iconst C (4) (4) (by decide) 363 rfl (by decide +kernel) ?_
  refine v_iadd C 364 rfl (by decide +kernel) ?_
  obtain ⟨hi491, hf⟩ := grd_e hf
  refine v_sld C hX hbl hG hi491 365 rfl (by decide +kernel) ?_
  refine v_aload_n C 0 0 rfl 366 rfl (by decide +kernel) ?_
  refine v_iload_n C 3 3 rfl 367 rfl (by decide +kernel) ?_
  refine v_iconst C (5) (5) (by decide) 368 rfl (by decide +kernel) ?_
  refine v_iadd C 369 rfl (by decide +kernel) ?_
  obtain ⟨hi492, hf⟩ := grd_e hf
  refine v_sld C hX hbl hG hi492 370 rfl (by decide +kernel) ?_
  obtain ⟨r494, σ493, hcr494, hf⟩ := cl2_e hf
  refine v_cV C 8 rfl (ns_kd_lt hk_a1 (by decide)) hk_a1 (by decide) [.int (xs (ns_ix (x3 + (1 : Int32)))), .int (xs (ns_ix (x3 + (2 : Int32)))), .int (xs (ns_ix (x3 + (3 : Int32)))), .int (xs (ns_ix (x3 + (4 : Int32)))), .int (xs (ns_ix (x3 + (5 : Int32))))] [] (c_N_copy G l σ a1 (xs (ns_ix (x3 + (1 : Int32)))) (xs (ns_ix (x3 + (2 : Int32)))) (xs (ns_ix (x3 + (3 : Int32)))) (xs (ns_ix (x3 + (4 : Int32)))) (xs (ns_ix (x3 + (5 : Int32)))) hcr494) 25 5 tw_363 tw_360 tw_361 tw_362 tw_1 hd_N_copy rfl ⟨(Nat.le_of_ble_eq_true rfl), (Nat.le_of_ble_eq_true rfl)⟩ ⟨(Nat.le_of_ble_eq_true rfl), (Nat.le_of_ble_eq_true rfl)⟩ (Nat.le_of_ble_eq_true rfl) rfl 373 rfl (by decide +kernel) [.int r494] rfl ?_
  refine v_aload_n C 2 2 rfl 374 rfl (by decide +kernel) ?_
  refine v_aload_n C 0 0 rfl 375 rfl (by decide +kernel) ?_
  refine v_iload_n C 3 3 rfl 376 rfl (by decide +kernel) ?_
  refine v_iconst C (1) (1) (by decide) 377 rfl (by decide +kernel) ?_
  refine v_iadd C 378 rfl (by decide +kernel) ?_
  obtain ⟨hi495, hf⟩ := grd_e hf
  refine v_sld C hX hbl hG hi495 379 rfl (by decide +kernel) ?_
  refine v_aload_n C 0 0 rfl 380 rfl (by decide +kernel) ?_
  refine v_iload_n C 3 3 rfl 381 rfl (by decide +kernel) ?_
  refine v_iconst C (2) (2) (by decide) 382 rfl (by decide +kernel) ?_
  refine v_iadd C 383 rfl (by decide +kernel) ?_
  obtain ⟨hi496, hf⟩ := grd_e hf
  refine v_sld C hX hbl hG hi496 384 rfl (by decide +kernel) ?_
  refine v_aload_n C 0 0 rfl 385 rfl (by decide +kernel) ?_
  refine v_iload_n C 3 3 rfl 386 rfl (by decide +kernel) ?_
  refine v_iconst C (3) (3) (by decide) 387 rfl (by decide +kernel) ?_
  refine v_iadd C 388 rfl (by decide +kernel) ?_
  obtain ⟨hi497, hf⟩ := grd_e hf
  refine v_sld C hX hbl hG hi497 389 rfl (by decide +kernel) ?_
  refine v_aload_n C 0 0 rfl 390 rfl (by decide +kernel) ?_
  refine v_iload_n C 3 3 rfl 391 rfl (by decide +kernel) ?_
  refine v_iconst C (4) (4) (by decide) 392 rfl (by decide +kernel) ?_
  refine v_iadd C 393 rfl (by decide +kernel) ?_
  obtain ⟨hi498, hf⟩ := grd_e hf
  refine v_sld C hX hbl hG hi498 394 rfl (by decide +kernel) ?_
  refine v_aload_n C 0 0 rfl 395 rfl (by decide +kernel) ?_
  refine v_iload_n C 3 3 rfl 396 rfl (by decide +kernel) ?_
  refine v_iconst C (5) (5) (by decide) 397 rfl (by decide +kernel) ?_
  refine v_iadd C 398 rfl (by decide +kernel) ?_
  obtain ⟨hi499, hf⟩ := grd_e hf
  refine v_sld C hX hbl hG hi499 399 rfl (by decide +kernel) ?_
  obtain ⟨r501, σ500, hcr501, hf⟩ := cl2_e hf
  refine v_cV C 9 rfl (ns_kd_lt hk_a2 (by decide)) hk_a2 (by decide) [.int (xs (ns_ix (x3 + (1 : Int32)))), .int (xs (ns_ix (x3 + (2 : Int32)))), .int (xs (ns_ix (x3 + (3 : Int32)))), .int (xs (ns_ix (x3 + (4 : Int32)))), .int (xs (ns_ix (x3 + (5 : Int32))))] [.int r494] (c_M_copy G l σ493 a2 (xs (ns_ix (x3 + (1 : Int32)))) (xs (ns_ix (x3 + (2 : Int32)))) (xs (ns_ix (x3 + (3 : Int32)))) (xs (ns_ix (x3 + (4 : Int32)))) (xs (ns_ix (x3 + (5 : Int32)))) hcr501) 29 5 tw_1091 tw_1088 tw_1089 tw_1090 tw_10 hd_M_copy rfl ⟨(Nat.le_of_ble_eq_true rfl), (Nat.le_of_ble_eq_true rfl)⟩ ⟨(Nat.le_of_ble_eq_true rfl), (Nat.le_of_ble_eq_true rfl)⟩ (Nat.le_of_ble_eq_true rfl) rfl 402 rfl (by decide +kernel) [.int r501, .int r494] rfl ?_
  refine v_icmp_eq C 1550 405 rfl (by decide +kernel) (fun h502 => ?_) (fun h502 => ?_)
  · have hf := ite2_t hf h502
    obtain ⟨z503, hz503, hf⟩ := bnd_e hf
    refine v_iinc C 3 (6) 3 z503 rfl (by rw [hz503]; rfl) [(3, .int z503), (0, .ref b), (1, .ref (G.1 + a1)), (2, .ref (G.1 + a2))] (by decide) rfl 1553 rfl (by decide +kernel) ?_
    refine v_goto C 18 (by decide +kernel) ?_
    refine v_sub [1, 2, 3, 0] rfl ?_
    exact hkh18 σ500 a1 a2 z503 hk_a1 hk_a2 hf
  · have hf := ite2_f hf h502
    cases hf
theorem t_law_407 (G : ns_G) (l : Launch) {p : Program} {e : Env} {s : State} {m : MethodId} {below : List Frame} {meth : Method} {c : Code} {b L : Nat} {xs : Nat → Int32} (C : ns_Cx G p s m #[Value.ref b] meth c code "NinthStepLaw" 4) (hr : meth.sig.returnType = ret) (hX : va_X b L xs s s.heap) (hbl : b < s.heap.size) (hG : G.1 = s.heap.size) {σ' : ns_St} {kh18 : ns_St → Nat → Nat → Int32 → Option (Unit × ns_St)} (hkh18 : ∀ (σ : ns_St) (a1 : Nat) (a2 : Nat) (x3 : Int32), ns_kd a1 = 8 → ns_kd a2 = 9 → kh18 σ a1 a2 x3 = some ((), σ') → VV G p l e room_1 s m #[Value.ref b] below meth c 4 82 14211 (lw_Z below #[Value.ref b] s) ns_N σ 18 [(0, .ref b), (1, .ref (G.1 + a1)), (2, .ref (G.1 + a2)), (3, .int x3)] []) (σ : ns_St) (a1 : Nat) (a2 : Nat) (x3 : Int32) (hk_a1 : ns_kd a1 = 8) (hk_a2 : ns_kd a2 = 9) (hf : g_law_407 xs L kh18 σ a1 a2 x3 = some ((), σ')) : VV G p l e room_1 s m #[Value.ref b] below meth c 4 82 14211 (lw_Z below #[Value.ref b] s) ns_N σ 407 [(0, .ref b), (1, .ref (G.1 + a1)), (2, .ref (G.1 + a2)), (3, .int x3)] [] := by
  unfold g_law_407 at hf
  refine v_aload_n C 1 1 rfl 408 rfl (by decide +kernel) ?_
  refine v_aload_n C 0 0 rfl 409 rfl (by decide +kernel) ?_
  refine v_iload_n C 3 3 rfl 410 rfl (by decide +kernel) ?_
  refine v_iconst C (1) (1) (by decide) 411 rfl (by decide +kernel) ?_
  refine v_iadd C 412 rfl (by decide +kernel) ?_
  obtain ⟨hi504, hf⟩ := grd_e hf
  refine v_sld C hX hbl hG hi504 413 rfl (by decide +kernel) ?_
  refine v_aload_n C 0 0 rfl 414 rfl (by decide +kernel) ?_
  refine v_iload_n C 3 3 rfl 415 rfl (by decide +kernel) ?_
  refine v_iconst C (2) (2) (by decide) 416 rfl (by decide +kernel) ?_
  refine v_iadd C 417 rfl (by decide +kernel) ?_
  obtain ⟨hi505, hf⟩ := grd_e hf
  refine v_sld C hX hbl hG hi505 418 rfl (by decide +kernel) ?_
  obtain ⟨r507, σ506, hcr507, hf⟩ := cl2_e hf
  refine v_cV C 8 rfl (ns_kd_lt hk_a1 (by decide)) hk_a1 (by decide) [.int (xs (ns_ix (x3 + (1 : Int32)))), .int (xs (ns_ix (x3 + (2 : Int32))))] [] (c_N_element G l σ a1 (xs (ns_ix (x3 + (1 : Int32)))) (xs (ns_ix (x3 + (2 : Int32)))) hcr507) 30 2 tw_373 tw_370 tw_371 tw_372 tw_1 hd_N_element rfl ⟨(Nat.le_of_ble_eq_true rfl), (Nat.le_of_ble_eq_true rfl)⟩ ⟨(Nat.le_of_ble_eq_true rfl), (Nat.le_of_ble_eq_true rfl)⟩ (Nat.le_of_ble_eq_true rfl) rfl 421 rfl (by decide +kernel) [.long r507] rfl ?_
  refine v_aload_n C 2 2 rfl 422 rfl (by decide +kernel) ?_
  refine v_aload_n C 0 0 rfl 423 rfl (by decide +kernel) ?_
  refine v_iload_n C 3 3 rfl 424 rfl (by decide +kernel) ?_
  refine v_iconst C (1) (1) (by decide) 425 rfl (by decide +kernel) ?_
  refine v_iadd C 426 rfl (by decide +kernel) ?_
  obtain ⟨hi508, hf⟩ := grd_e hf
  refine v_sld C hX hbl hG hi508 427 rfl (by decide +kernel) ?_
  refine v_aload_n C 0 0 rfl 428 rfl (by decide +kernel) ?_
  refine v_iload_n C 3 3 rfl 429 rfl (by decide +kernel) ?_
  refine v_iconst C (2) (2) (by decide) 430 rfl (by decide +kernel) ?_
  refine v_iadd C 431 rfl (by decide +kernel) ?_
  obtain ⟨hi509, hf⟩ := grd_e hf
  refine v_sld C hX hbl hG hi509 432 rfl (by decide +kernel) ?_
  obtain ⟨r511, σ510, hcr511, hf⟩ := cl2_e hf
  refine v_cV C 9 rfl (ns_kd_lt hk_a2 (by decide)) hk_a2 (by decide) [.int (xs (ns_ix (x3 + (1 : Int32)))), .int (xs (ns_ix (x3 + (2 : Int32))))] [.long r507] (c_M_element G l σ506 a2 (xs (ns_ix (x3 + (1 : Int32)))) (xs (ns_ix (x3 + (2 : Int32)))) hcr511) 34 2 tw_1099 tw_1096 tw_1097 tw_1098 tw_10 hd_M_element rfl ⟨(Nat.le_of_ble_eq_true rfl), (Nat.le_of_ble_eq_true rfl)⟩ ⟨(Nat.le_of_ble_eq_true rfl), (Nat.le_of_ble_eq_true rfl)⟩ (Nat.le_of_ble_eq_true rfl) rfl 435 rfl (by decide +kernel) [.long r511, .long r507] rfl ?_
  refine v_lcmp C 436 rfl (by decide +kernel) ?_
  refine v_if_eq C 1550 439 rfl (by decide +kernel) (fun h512 => ?_) (fun h512 => ?_)
  · have hf := ite2_t hf h512
    obtain ⟨z513, hz513, hf⟩ := bnd_e hf
    refine v_iinc C 3 (6) 3 z513 rfl (by rw [hz513]; rfl) [(3, .int z513), (0, .ref b), (1, .ref (G.1 + a1)), (2, .ref (G.1 + a2))] (by decide) rfl 1553 rfl (by decide +kernel) ?_
    refine v_goto C 18 (by decide +kernel) ?_
    refine v_sub [1, 2, 3, 0] rfl ?_
    exact hkh18 σ510 a1 a2 z513 hk_a1 hk_a2 hf
  · have hf := ite2_f hf h512
    cases hf
theorem t_law_441 (G : ns_G) (l : Launch) {p : Program} {e : Env} {s : State} {m : MethodId} {below : List Frame} {meth : Method} {c : Code} {b L : Nat} {xs : Nat → Int32} (C : ns_Cx G p s m #[Value.ref b] meth c code "NinthStepLaw" 4) (hr : meth.sig.returnType = ret) (hX : va_X b L xs s s.heap) (hbl : b < s.heap.size) (hG : G.1 = s.heap.size) {σ' : ns_St} {kh18 : ns_St → Nat → Nat → Int32 → Option (Unit × ns_St)} (hkh18 : ∀ (σ : ns_St) (a1 : Nat) (a2 : Nat) (x3 : Int32), ns_kd a1 = 8 → ns_kd a2 = 9 → kh18 σ a1 a2 x3 = some ((), σ') → VV G p l e room_1 s m #[Value.ref b] below meth c 4 82 14211 (lw_Z below #[Value.ref b] s) ns_N σ 18 [(0, .ref b), (1, .ref (G.1 + a1)), (2, .ref (G.1 + a2)), (3, .int x3)] []) (σ : ns_St) (a1 : Nat) (a2 : Nat) (x3 : Int32) (hk_a1 : ns_kd a1 = 8) (hk_a2 : ns_kd a2 = 9) (hf : g_law_441 xs L kh18 σ a1 a2 x3 = some ((), σ')) : VV G p l e room_1 s m #[Value.ref b] below meth c 4 82 14211 (lw_Z below #[Value.ref b] s) ns_N σ 441 [(0, .ref b), (1, .ref (G.1 + a1)), (2, .ref (G.1 + a2)), (3, .int x3)] [] := by
  unfold g_law_441 at hf
  refine v_aload_n C 1 1 rfl 442 rfl (by decide +kernel) ?_
  refine v_aload_n C 0 0 rfl 443 rfl (by decide +kernel) ?_
  refine v_iload_n C 3 3 rfl 444 rfl (by decide +kernel) ?_
  refine v_iconst C (1) (1) (by decide) 445 rfl (by decide +kernel) ?_
  refine v_iadd C 446 rfl (by decide +kernel) ?_
  obtain ⟨hi514, hf⟩ := grd_e hf
  refine v_sld C hX hbl hG hi514 447 rfl (by decide +kernel) ?_
  obtain ⟨r516, σ515, hcr516, hf⟩ := cl2_e hf
  refine v_cV C 8 rfl (ns_kd_lt hk_a1 (by decide)) hk_a1 (by decide) [.int (xs (ns_ix (x3 + (1 : Int32))))] [] (c_N_holds G l σ a1 (xs (ns_ix (x3 + (1 : Int32)))) hcr516) 35 1 tw_382 tw_379 tw_380 tw_381 tw_1 hd_N_holds rfl ⟨(Nat.le_of_ble_eq_true rfl), (Nat.le_of_ble_eq_true rfl)⟩ ⟨(Nat.le_of_ble_eq_true rfl), (Nat.le_of_ble_eq_true rfl)⟩ (Nat.le_of_ble_eq_true rfl) rfl 450 rfl (by decide +kernel) [.int r516] rfl ?_
  refine v_aload_n C 2 2 rfl 451 rfl (by decide +kernel) ?_
  refine v_aload_n C 0 0 rfl 452 rfl (by decide +kernel) ?_
  refine v_iload_n C 3 3 rfl 453 rfl (by decide +kernel) ?_
  refine v_iconst C (1) (1) (by decide) 454 rfl (by decide +kernel) ?_
  refine v_iadd C 455 rfl (by decide +kernel) ?_
  obtain ⟨hi517, hf⟩ := grd_e hf
  refine v_sld C hX hbl hG hi517 456 rfl (by decide +kernel) ?_
  obtain ⟨r519, σ518, hcr519, hf⟩ := cl2_e hf
  refine v_cV C 9 rfl (ns_kd_lt hk_a2 (by decide)) hk_a2 (by decide) [.int (xs (ns_ix (x3 + (1 : Int32))))] [.int r516] (c_M_holds G l σ515 a2 (xs (ns_ix (x3 + (1 : Int32)))) hcr519) 39 1 tw_1103 tw_1100 tw_1101 tw_1102 tw_10 hd_M_holds rfl ⟨(Nat.le_of_ble_eq_true rfl), (Nat.le_of_ble_eq_true rfl)⟩ ⟨(Nat.le_of_ble_eq_true rfl), (Nat.le_of_ble_eq_true rfl)⟩ (Nat.le_of_ble_eq_true rfl) rfl 459 rfl (by decide +kernel) [.int r519, .int r516] rfl ?_
  refine v_icmp_eq C 1550 462 rfl (by decide +kernel) (fun h520 => ?_) (fun h520 => ?_)
  · have hf := ite2_t hf h520
    obtain ⟨z521, hz521, hf⟩ := bnd_e hf
    refine v_iinc C 3 (6) 3 z521 rfl (by rw [hz521]; rfl) [(3, .int z521), (0, .ref b), (1, .ref (G.1 + a1)), (2, .ref (G.1 + a2))] (by decide) rfl 1553 rfl (by decide +kernel) ?_
    refine v_goto C 18 (by decide +kernel) ?_
    refine v_sub [1, 2, 3, 0] rfl ?_
    exact hkh18 σ518 a1 a2 z521 hk_a1 hk_a2 hf
  · have hf := ite2_f hf h520
    cases hf
theorem t_law_464 (G : ns_G) (l : Launch) {p : Program} {e : Env} {s : State} {m : MethodId} {below : List Frame} {meth : Method} {c : Code} {b L : Nat} {xs : Nat → Int32} (C : ns_Cx G p s m #[Value.ref b] meth c code "NinthStepLaw" 4) (hr : meth.sig.returnType = ret) (hX : va_X b L xs s s.heap) (hbl : b < s.heap.size) (hG : G.1 = s.heap.size) {σ' : ns_St} {kh18 : ns_St → Nat → Nat → Int32 → Option (Unit × ns_St)} (hkh18 : ∀ (σ : ns_St) (a1 : Nat) (a2 : Nat) (x3 : Int32), ns_kd a1 = 8 → ns_kd a2 = 9 → kh18 σ a1 a2 x3 = some ((), σ') → VV G p l e room_1 s m #[Value.ref b] below meth c 4 82 14211 (lw_Z below #[Value.ref b] s) ns_N σ 18 [(0, .ref b), (1, .ref (G.1 + a1)), (2, .ref (G.1 + a2)), (3, .int x3)] []) (σ : ns_St) (a1 : Nat) (a2 : Nat) (x3 : Int32) (hk_a1 : ns_kd a1 = 8) (hk_a2 : ns_kd a2 = 9) (hf : g_law_464 xs L kh18 σ a1 a2 x3 = some ((), σ')) : VV G p l e room_1 s m #[Value.ref b] below meth c 4 82 14211 (lw_Z below #[Value.ref b] s) ns_N σ 464 [(0, .ref b), (1, .ref (G.1 + a1)), (2, .ref (G.1 + a2)), (3, .int x3)] [] := by
  unfold g_law_464 at hf
  refine v_aload_n C 1 1 rfl 465 rfl (by decide +kernel) ?_
  refine v_aload_n C 0 0 rfl 466 rfl (by decide +kernel) ?_
  refine v_iload_n C 3 3 rfl 467 rfl (by decide +kernel) ?_
  refine v_iconst C (1) (1) (by decide) 468 rfl (by decide +kernel) ?_
  refine v_iadd C 469 rfl (by decide +kernel) ?_
  obtain ⟨hi522, hf⟩ := grd_e hf
  refine v_sld C hX hbl hG hi522 470 rfl (by decide +kernel) ?_
  refine v_aload_n C 0 0 rfl 471 rfl (by decide +kernel) ?_
  refine v_iload_n C 3 3 rfl 472 rfl (by decide +kernel) ?_
  refine v_iconst C (2) (2) (by decide) 473 rfl (by decide +kernel) ?_
  refine v_iadd C 474 rfl (by decide +kernel) ?_
  obtain ⟨hi523, hf⟩ := grd_e hf
  refine v_sld C hX hbl hG hi523 475 rfl (by decide +kernel) ?_
  obtain ⟨r525, σ524, hcr525, hf⟩ := cl2_e hf
  refine v_cV C 8 rfl (ns_kd_lt hk_a1 (by decide)) hk_a1 (by decide) [.int (xs (ns_ix (x3 + (1 : Int32)))), .int (xs (ns_ix (x3 + (2 : Int32))))] [] (c_N_show G l σ a1 (xs (ns_ix (x3 + (1 : Int32)))) (xs (ns_ix (x3 + (2 : Int32)))) hcr525) 40 2 tw_386 tw_383 tw_384 tw_385 tw_1 hd_N_show rfl ⟨(Nat.le_of_ble_eq_true rfl), (Nat.le_of_ble_eq_true rfl)⟩ ⟨(Nat.le_of_ble_eq_true rfl), (Nat.le_of_ble_eq_true rfl)⟩ (Nat.le_of_ble_eq_true rfl) rfl 478 rfl (by decide +kernel) [.int r525] rfl ?_
  refine v_aload_n C 2 2 rfl 479 rfl (by decide +kernel) ?_
  refine v_aload_n C 0 0 rfl 480 rfl (by decide +kernel) ?_
  refine v_iload_n C 3 3 rfl 481 rfl (by decide +kernel) ?_
  refine v_iconst C (1) (1) (by decide) 482 rfl (by decide +kernel) ?_
  refine v_iadd C 483 rfl (by decide +kernel) ?_
  obtain ⟨hi526, hf⟩ := grd_e hf
  refine v_sld C hX hbl hG hi526 484 rfl (by decide +kernel) ?_
  refine v_aload_n C 0 0 rfl 485 rfl (by decide +kernel) ?_
  refine v_iload_n C 3 3 rfl 486 rfl (by decide +kernel) ?_
  refine v_iconst C (2) (2) (by decide) 487 rfl (by decide +kernel) ?_
  refine v_iadd C 488 rfl (by decide +kernel) ?_
  obtain ⟨hi527, hf⟩ := grd_e hf
  refine v_sld C hX hbl hG hi527 489 rfl (by decide +kernel) ?_
  obtain ⟨r529, σ528, hcr529, hf⟩ := cl2_e hf
  refine v_cV C 9 rfl (ns_kd_lt hk_a2 (by decide)) hk_a2 (by decide) [.int (xs (ns_ix (x3 + (1 : Int32)))), .int (xs (ns_ix (x3 + (2 : Int32))))] [.int r525] (c_M_show G l σ524 a2 (xs (ns_ix (x3 + (1 : Int32)))) (xs (ns_ix (x3 + (2 : Int32)))) hcr529) 44 2 tw_1107 tw_1104 tw_1105 tw_1106 tw_10 hd_M_show rfl ⟨(Nat.le_of_ble_eq_true rfl), (Nat.le_of_ble_eq_true rfl)⟩ ⟨(Nat.le_of_ble_eq_true rfl), (Nat.le_of_ble_eq_true rfl)⟩ (Nat.le_of_ble_eq_true rfl) rfl 492 rfl (by decide +kernel) [.int r529, .int r525] rfl ?_
  refine v_icmp_eq C 1550 495 rfl (by decide +kernel) (fun h530 => ?_) (fun h530 => ?_)
  · have hf := ite2_t hf h530
    obtain ⟨z531, hz531, hf⟩ := bnd_e hf
    refine v_iinc C 3 (6) 3 z531 rfl (by rw [hz531]; rfl) [(3, .int z531), (0, .ref b), (1, .ref (G.1 + a1)), (2, .ref (G.1 + a2))] (by decide) rfl 1553 rfl (by decide +kernel) ?_
    refine v_goto C 18 (by decide +kernel) ?_
    refine v_sub [1, 2, 3, 0] rfl ?_
    exact hkh18 σ528 a1 a2 z531 hk_a1 hk_a2 hf
  · have hf := ite2_f hf h530
    cases hf
theorem t_law_497 (G : ns_G) (l : Launch) {p : Program} {e : Env} {s : State} {m : MethodId} {below : List Frame} {meth : Method} {c : Code} {b L : Nat} {xs : Nat → Int32} (C : ns_Cx G p s m #[Value.ref b] meth c code "NinthStepLaw" 4) (hr : meth.sig.returnType = ret) (hX : va_X b L xs s s.heap) (hbl : b < s.heap.size) (hG : G.1 = s.heap.size) {σ' : ns_St} {kh18 : ns_St → Nat → Nat → Int32 → Option (Unit × ns_St)} (hkh18 : ∀ (σ : ns_St) (a1 : Nat) (a2 : Nat) (x3 : Int32), ns_kd a1 = 8 → ns_kd a2 = 9 → kh18 σ a1 a2 x3 = some ((), σ') → VV G p l e room_1 s m #[Value.ref b] below meth c 4 82 14211 (lw_Z below #[Value.ref b] s) ns_N σ 18 [(0, .ref b), (1, .ref (G.1 + a1)), (2, .ref (G.1 + a2)), (3, .int x3)] []) (σ : ns_St) (a1 : Nat) (a2 : Nat) (x3 : Int32) (hk_a1 : ns_kd a1 = 8) (hk_a2 : ns_kd a2 = 9) (hf : g_law_497 xs L kh18 σ a1 a2 x3 = some ((), σ')) : VV G p l e room_1 s m #[Value.ref b] below meth c 4 82 14211 (lw_Z below #[Value.ref b] s) ns_N σ 497 [(0, .ref b), (1, .ref (G.1 + a1)), (2, .ref (G.1 + a2)), (3, .int x3)] [] := by
  unfold g_law_497 at hf
  refine v_aload_n C 1 1 rfl 498 rfl (by decide +kernel) ?_
  refine v_aload_n C 0 0 rfl 499 rfl (by decide +kernel) ?_
  refine v_iload_n C 3 3 rfl 500 rfl (by decide +kernel) ?_
  refine v_iconst C (1) (1) (by decide) 501 rfl (by decide +kernel) ?_
  refine v_iadd C 502 rfl (by decide +kernel) ?_
  obtain ⟨hi532, hf⟩ := grd_e hf
  refine v_sld C hX hbl hG hi532 503 rfl (by decide +kernel) ?_
  refine v_aload_n C 0 0 rfl 504 rfl (by decide +kernel) ?_
  refine v_iload_n C 3 3 rfl 505 rfl (by decide +kernel) ?_
  refine v_iconst C (2) (2) (by decide) 506 rfl (by decide +kernel) ?_
  refine v_iadd C 507 rfl (by decide +kernel) ?_
  obtain ⟨hi533, hf⟩ := grd_e hf
  refine v_sld C hX hbl hG hi533 508 rfl (by decide +kernel) ?_
  obtain ⟨r535, σ534, hcr535, hf⟩ := cl2_e hf
  refine v_cV C 8 rfl (ns_kd_lt hk_a1 (by decide)) hk_a1 (by decide) [.int (xs (ns_ix (x3 + (1 : Int32)))), .int (xs (ns_ix (x3 + (2 : Int32))))] [] (c_N_says G l σ a1 (xs (ns_ix (x3 + (1 : Int32)))) (xs (ns_ix (x3 + (2 : Int32)))) hcr535) 45 2 tw_394 tw_391 tw_392 tw_393 tw_1 hd_N_says rfl ⟨(Nat.le_of_ble_eq_true rfl), (Nat.le_of_ble_eq_true rfl)⟩ ⟨(Nat.le_of_ble_eq_true rfl), (Nat.le_of_ble_eq_true rfl)⟩ (Nat.le_of_ble_eq_true rfl) rfl 511 rfl (by decide +kernel) [.int r535] rfl ?_
  refine v_aload_n C 2 2 rfl 512 rfl (by decide +kernel) ?_
  refine v_aload_n C 0 0 rfl 513 rfl (by decide +kernel) ?_
  refine v_iload_n C 3 3 rfl 514 rfl (by decide +kernel) ?_
  refine v_iconst C (1) (1) (by decide) 515 rfl (by decide +kernel) ?_
  refine v_iadd C 516 rfl (by decide +kernel) ?_
  obtain ⟨hi536, hf⟩ := grd_e hf
  refine v_sld C hX hbl hG hi536 517 rfl (by decide +kernel) ?_
  refine v_aload_n C 0 0 rfl 518 rfl (by decide +kernel) ?_
  refine v_iload_n C 3 3 rfl 519 rfl (by decide +kernel) ?_
  refine v_iconst C (2) (2) (by decide) 520 rfl (by decide +kernel) ?_
  refine v_iadd C 521 rfl (by decide +kernel) ?_
  obtain ⟨hi537, hf⟩ := grd_e hf
  refine v_sld C hX hbl hG hi537 522 rfl (by decide +kernel) ?_
  obtain ⟨r539, σ538, hcr539, hf⟩ := cl2_e hf
  refine v_cV C 9 rfl (ns_kd_lt hk_a2 (by decide)) hk_a2 (by decide) [.int (xs (ns_ix (x3 + (1 : Int32)))), .int (xs (ns_ix (x3 + (2 : Int32))))] [.int r535] (c_M_says G l σ534 a2 (xs (ns_ix (x3 + (1 : Int32)))) (xs (ns_ix (x3 + (2 : Int32)))) hcr539) 48 2 tw_1115 tw_1112 tw_1113 tw_1114 tw_10 hd_M_says rfl ⟨(Nat.le_of_ble_eq_true rfl), (Nat.le_of_ble_eq_true rfl)⟩ ⟨(Nat.le_of_ble_eq_true rfl), (Nat.le_of_ble_eq_true rfl)⟩ (Nat.le_of_ble_eq_true rfl) rfl 525 rfl (by decide +kernel) [.int r539, .int r535] rfl ?_
  refine v_icmp_eq C 1550 528 rfl (by decide +kernel) (fun h540 => ?_) (fun h540 => ?_)
  · have hf := ite2_t hf h540
    obtain ⟨z541, hz541, hf⟩ := bnd_e hf
    refine v_iinc C 3 (6) 3 z541 rfl (by rw [hz541]; rfl) [(3, .int z541), (0, .ref b), (1, .ref (G.1 + a1)), (2, .ref (G.1 + a2))] (by decide) rfl 1553 rfl (by decide +kernel) ?_
    refine v_goto C 18 (by decide +kernel) ?_
    refine v_sub [1, 2, 3, 0] rfl ?_
    exact hkh18 σ538 a1 a2 z541 hk_a1 hk_a2 hf
  · have hf := ite2_f hf h540
    cases hf
theorem t_law_530 (G : ns_G) (l : Launch) {p : Program} {e : Env} {s : State} {m : MethodId} {below : List Frame} {meth : Method} {c : Code} {b L : Nat} {xs : Nat → Int32} (C : ns_Cx G p s m #[Value.ref b] meth c code "NinthStepLaw" 4) (hr : meth.sig.returnType = ret) (hX : va_X b L xs s s.heap) (hbl : b < s.heap.size) (hG : G.1 = s.heap.size) {σ' : ns_St} {kh18 : ns_St → Nat → Nat → Int32 → Option (Unit × ns_St)} (hkh18 : ∀ (σ : ns_St) (a1 : Nat) (a2 : Nat) (x3 : Int32), ns_kd a1 = 8 → ns_kd a2 = 9 → kh18 σ a1 a2 x3 = some ((), σ') → VV G p l e room_1 s m #[Value.ref b] below meth c 4 82 14211 (lw_Z below #[Value.ref b] s) ns_N σ 18 [(0, .ref b), (1, .ref (G.1 + a1)), (2, .ref (G.1 + a2)), (3, .int x3)] []) (σ : ns_St) (a1 : Nat) (a2 : Nat) (x3 : Int32) (hk_a1 : ns_kd a1 = 8) (hk_a2 : ns_kd a2 = 9) (hf : g_law_530 xs L kh18 σ a1 a2 x3 = some ((), σ')) : VV G p l e room_1 s m #[Value.ref b] below meth c 4 82 14211 (lw_Z below #[Value.ref b] s) ns_N σ 530 [(0, .ref b), (1, .ref (G.1 + a1)), (2, .ref (G.1 + a2)), (3, .int x3)] [] := by
  unfold g_law_530 at hf
  refine v_aload_n C 1 1 rfl 531 rfl (by decide +kernel) ?_
  refine v_aload_n C 0 0 rfl 532 rfl (by decide +kernel) ?_
  refine v_iload_n C 3 3 rfl 533 rfl (by decide +kernel) ?_
  refine v_iconst C (1) (1) (by decide) 534 rfl (by decide +kernel) ?_
  refine v_iadd C 535 rfl (by decide +kernel) ?_
  obtain ⟨hi542, hf⟩ := grd_e hf
  refine v_sld C hX hbl hG hi542 536 rfl (by decide +kernel) ?_
  obtain ⟨r544, σ543, hcr544, hf⟩ := cl2_e hf
  refine v_cV C 8 rfl (ns_kd_lt hk_a1 (by decide)) hk_a1 (by decide) [.int (xs (ns_ix (x3 + (1 : Int32))))] [] (c_N_length G l σ a1 (xs (ns_ix (x3 + (1 : Int32)))) hcr544) 49 1 tw_427 tw_424 tw_425 tw_426 tw_1 hd_N_length rfl ⟨(Nat.le_of_ble_eq_true rfl), (Nat.le_of_ble_eq_true rfl)⟩ ⟨(Nat.le_of_ble_eq_true rfl), (Nat.le_of_ble_eq_true rfl)⟩ (Nat.le_of_ble_eq_true rfl) rfl 539 rfl (by decide +kernel) [.int r544] rfl ?_
  refine v_aload_n C 2 2 rfl 540 rfl (by decide +kernel) ?_
  refine v_aload_n C 0 0 rfl 541 rfl (by decide +kernel) ?_
  refine v_iload_n C 3 3 rfl 542 rfl (by decide +kernel) ?_
  refine v_iconst C (1) (1) (by decide) 543 rfl (by decide +kernel) ?_
  refine v_iadd C 544 rfl (by decide +kernel) ?_
  obtain ⟨hi545, hf⟩ := grd_e hf
  refine v_sld C hX hbl hG hi545 545 rfl (by decide +kernel) ?_
  obtain ⟨r547, σ546, hcr547, hf⟩ := cl2_e hf
  refine v_cV C 9 rfl (ns_kd_lt hk_a2 (by decide)) hk_a2 (by decide) [.int (xs (ns_ix (x3 + (1 : Int32))))] [.int r544] (c_M_length G l σ543 a2 (xs (ns_ix (x3 + (1 : Int32)))) hcr547) 52 1 tw_1134 tw_1131 tw_1132 tw_1133 tw_10 hd_M_length rfl ⟨(Nat.le_of_ble_eq_true rfl), (Nat.le_of_ble_eq_true rfl)⟩ ⟨(Nat.le_of_ble_eq_true rfl), (Nat.le_of_ble_eq_true rfl)⟩ (Nat.le_of_ble_eq_true rfl) rfl 548 rfl (by decide +kernel) [.int r547, .int r544] rfl ?_
  refine v_icmp_eq C 1550 551 rfl (by decide +kernel) (fun h548 => ?_) (fun h548 => ?_)
  · have hf := ite2_t hf h548
    obtain ⟨z549, hz549, hf⟩ := bnd_e hf
    refine v_iinc C 3 (6) 3 z549 rfl (by rw [hz549]; rfl) [(3, .int z549), (0, .ref b), (1, .ref (G.1 + a1)), (2, .ref (G.1 + a2))] (by decide) rfl 1553 rfl (by decide +kernel) ?_
    refine v_goto C 18 (by decide +kernel) ?_
    refine v_sub [1, 2, 3, 0] rfl ?_
    exact hkh18 σ546 a1 a2 z549 hk_a1 hk_a2 hf
  · have hf := ite2_f hf h548
    cases hf
theorem t_law_604 (G : ns_G) (l : Launch) {p : Program} {e : Env} {s : State} {m : MethodId} {below : List Frame} {meth : Method} {c : Code} {b L : Nat} {xs : Nat → Int32} (C : ns_Cx G p s m #[Value.ref b] meth c code "NinthStepLaw" 4) (hr : meth.sig.returnType = ret) (hX : va_X b L xs s s.heap) (hbl : b < s.heap.size) (hG : G.1 = s.heap.size) {σ' : ns_St} {kh18 : ns_St → Nat → Nat → Int32 → Option (Unit × ns_St)} (hkh18 : ∀ (σ : ns_St) (a1 : Nat) (a2 : Nat) (x3 : Int32), ns_kd a1 = 8 → ns_kd a2 = 9 → kh18 σ a1 a2 x3 = some ((), σ') → VV G p l e room_1 s m #[Value.ref b] below meth c 4 82 14211 (lw_Z below #[Value.ref b] s) ns_N σ 18 [(0, .ref b), (1, .ref (G.1 + a1)), (2, .ref (G.1 + a2)), (3, .int x3)] []) (σ : ns_St) (s0 : Int32) (s1 : Nat) (s2 : Int32) (s3 : Int32) (s4 : Int32) (a1 : Nat) (a2 : Nat) (x3 : Int32) (hk_s1 : ns_kd s1 = 9) (hk_a1 : ns_kd a1 = 8) (hk_a2 : ns_kd a2 = 9) (hf : g_law_604 xs L kh18 σ s0 s1 s2 s3 s4 a1 a2 x3 = some ((), σ')) : VV G p l e room_1 s m #[Value.ref b] below meth c 4 82 14211 (lw_Z below #[Value.ref b] s) ns_N σ 604 [(0, .ref b), (1, .ref (G.1 + a1)), (2, .ref (G.1 + a2)), (3, .int x3)] [.int s4, .int s3, .int s2, .ref (G.1 + s1), .int s0] := by
  unfold g_law_604 at hf
  obtain ⟨r551, σ550, hcr551, hf⟩ := cl2_e hf
  refine v_cV C 9 rfl (ns_kd_lt hk_s1 (by decide)) hk_s1 (by decide) [.int s2, .int s3, .int s4] [.int s0] (c_M_put G l σ s1 s2 s3 s4 hcr551) 57 3 tw_1146 tw_1143 tw_1144 tw_1145 tw_10 hd_M_put rfl ⟨(Nat.le_of_ble_eq_true rfl), (Nat.le_of_ble_eq_true rfl)⟩ ⟨(Nat.le_of_ble_eq_true rfl), (Nat.le_of_ble_eq_true rfl)⟩ (Nat.le_of_ble_eq_true rfl) rfl 607 rfl (by decide +kernel) [.int r551, .int s0] rfl ?_
  refine v_icmp_eq C 1550 610 rfl (by decide +kernel) (fun h552 => ?_) (fun h552 => ?_)
  · have hf := ite2_t hf h552
    obtain ⟨z553, hz553, hf⟩ := bnd_e hf
    refine v_iinc C 3 (6) 3 z553 rfl (by rw [hz553]; rfl) [(3, .int z553), (0, .ref b), (1, .ref (G.1 + a1)), (2, .ref (G.1 + a2))] (by decide) rfl 1553 rfl (by decide +kernel) ?_
    refine v_goto C 18 (by decide +kernel) ?_
    refine v_sub [1, 2, 3, 0] rfl ?_
    exact hkh18 σ550 a1 a2 z553 hk_a1 hk_a2 hf
  · have hf := ite2_f hf h552
    cases hf
theorem t_law_577 (G : ns_G) (l : Launch) {p : Program} {e : Env} {s : State} {m : MethodId} {below : List Frame} {meth : Method} {c : Code} {b L : Nat} {xs : Nat → Int32} (C : ns_Cx G p s m #[Value.ref b] meth c code "NinthStepLaw" 4) (hr : meth.sig.returnType = ret) (hX : va_X b L xs s s.heap) (hbl : b < s.heap.size) (hG : G.1 = s.heap.size) {σ' : ns_St} {kh18 : ns_St → Nat → Nat → Int32 → Option (Unit × ns_St)} (hkh18 : ∀ (σ : ns_St) (a1 : Nat) (a2 : Nat) (x3 : Int32), ns_kd a1 = 8 → ns_kd a2 = 9 → kh18 σ a1 a2 x3 = some ((), σ') → VV G p l e room_1 s m #[Value.ref b] below meth c 4 82 14211 (lw_Z below #[Value.ref b] s) ns_N σ 18 [(0, .ref b), (1, .ref (G.1 + a1)), (2, .ref (G.1 + a2)), (3, .int x3)] []) (σ : ns_St) (s0 : Nat) (s1 : Int32) (s2 : Int32) (s3 : Int32) (a1 : Nat) (a2 : Nat) (x3 : Int32) (hk_s0 : ns_kd s0 = 8) (hk_a1 : ns_kd a1 = 8) (hk_a2 : ns_kd a2 = 9) (hf : g_law_577 xs L kh18 σ s0 s1 s2 s3 a1 a2 x3 = some ((), σ')) : VV G p l e room_1 s m #[Value.ref b] below meth c 4 82 14211 (lw_Z below #[Value.ref b] s) ns_N σ 577 [(0, .ref b), (1, .ref (G.1 + a1)), (2, .ref (G.1 + a2)), (3, .int x3)] [.int s3, .int s2, .int s1, .ref (G.1 + s0)] := by
  unfold g_law_577 at hf
  obtain ⟨r555, σ554, hcr555, hf⟩ := cl2_e hf
  refine v_cV C 8 rfl (ns_kd_lt hk_s0 (by decide)) hk_s0 (by decide) [.int s1, .int s2, .int s3] [] (c_N_put G l σ s0 s1 s2 s3 hcr555) 53 3 tw_444 tw_441 tw_442 tw_443 tw_1 hd_N_put rfl ⟨(Nat.le_of_ble_eq_true rfl), (Nat.le_of_ble_eq_true rfl)⟩ ⟨(Nat.le_of_ble_eq_true rfl), (Nat.le_of_ble_eq_true rfl)⟩ (Nat.le_of_ble_eq_true rfl) rfl 580 rfl (by decide +kernel) [.int r555] rfl ?_
  refine v_aload_n C 2 2 rfl 581 rfl (by decide +kernel) ?_
  refine v_aload_n C 0 0 rfl 582 rfl (by decide +kernel) ?_
  refine v_iload_n C 3 3 rfl 583 rfl (by decide +kernel) ?_
  refine v_iconst C (1) (1) (by decide) 584 rfl (by decide +kernel) ?_
  refine v_iadd C 585 rfl (by decide +kernel) ?_
  obtain ⟨hi556, hf⟩ := grd_e hf
  refine v_sld C hX hbl hG hi556 586 rfl (by decide +kernel) ?_
  refine v_aload_n C 0 0 rfl 587 rfl (by decide +kernel) ?_
  refine v_iload_n C 3 3 rfl 588 rfl (by decide +kernel) ?_
  refine v_iconst C (2) (2) (by decide) 589 rfl (by decide +kernel) ?_
  refine v_iadd C 590 rfl (by decide +kernel) ?_
  obtain ⟨hi557, hf⟩ := grd_e hf
  refine v_sld C hX hbl hG hi557 591 rfl (by decide +kernel) ?_
  refine v_aload_n C 0 0 rfl 592 rfl (by decide +kernel) ?_
  refine v_iload_n C 3 3 rfl 593 rfl (by decide +kernel) ?_
  refine v_iconst C (3) (3) (by decide) 594 rfl (by decide +kernel) ?_
  refine v_iadd C 595 rfl (by decide +kernel) ?_
  obtain ⟨hi558, hf⟩ := grd_e hf
  refine v_sld C hX hbl hG hi558 596 rfl (by decide +kernel) ?_
  refine v_if_eq C 603 599 rfl (by decide +kernel) (fun h559 => ?_) (fun h559 => ?_)
  · have hf := ite2_t hf h559
    refine v_iconst C (0) (0) (by decide) 604 rfl (by decide +kernel) ?_
    exact t_law_604 G l C hr hX hbl hG hkh18 σ554 r555 a2 (xs (ns_ix (x3 + (1 : Int32)))) (xs (ns_ix (x3 + (2 : Int32)))) (0 : Int32) a1 a2 x3 hk_a2 hk_a1 hk_a2 hf
  · have hf := ite2_f hf h559
    refine v_iconst C (1) (1) (by decide) 600 rfl (by decide +kernel) ?_
    refine v_goto C 604 (by decide +kernel) ?_
    exact t_law_604 G l C hr hX hbl hG hkh18 σ554 r555 a2 (xs (ns_ix (x3 + (1 : Int32)))) (xs (ns_ix (x3 + (2 : Int32)))) (1 : Int32) a1 a2 x3 hk_a2 hk_a1 hk_a2 hf
theorem t_law_553 (G : ns_G) (l : Launch) {p : Program} {e : Env} {s : State} {m : MethodId} {below : List Frame} {meth : Method} {c : Code} {b L : Nat} {xs : Nat → Int32} (C : ns_Cx G p s m #[Value.ref b] meth c code "NinthStepLaw" 4) (hr : meth.sig.returnType = ret) (hX : va_X b L xs s s.heap) (hbl : b < s.heap.size) (hG : G.1 = s.heap.size) {σ' : ns_St} {kh18 : ns_St → Nat → Nat → Int32 → Option (Unit × ns_St)} (hkh18 : ∀ (σ : ns_St) (a1 : Nat) (a2 : Nat) (x3 : Int32), ns_kd a1 = 8 → ns_kd a2 = 9 → kh18 σ a1 a2 x3 = some ((), σ') → VV G p l e room_1 s m #[Value.ref b] below meth c 4 82 14211 (lw_Z below #[Value.ref b] s) ns_N σ 18 [(0, .ref b), (1, .ref (G.1 + a1)), (2, .ref (G.1 + a2)), (3, .int x3)] []) (σ : ns_St) (a1 : Nat) (a2 : Nat) (x3 : Int32) (hk_a1 : ns_kd a1 = 8) (hk_a2 : ns_kd a2 = 9) (hf : g_law_553 xs L kh18 σ a1 a2 x3 = some ((), σ')) : VV G p l e room_1 s m #[Value.ref b] below meth c 4 82 14211 (lw_Z below #[Value.ref b] s) ns_N σ 553 [(0, .ref b), (1, .ref (G.1 + a1)), (2, .ref (G.1 + a2)), (3, .int x3)] [] := by
  unfold g_law_553 at hf
  refine v_aload_n C 1 1 rfl 554 rfl (by decide +kernel) ?_
  refine v_aload_n C 0 0 rfl 555 rfl (by decide +kernel) ?_
  refine v_iload_n C 3 3 rfl 556 rfl (by decide +kernel) ?_
  refine v_iconst C (1) (1) (by decide) 557 rfl (by decide +kernel) ?_
  refine v_iadd C 558 rfl (by decide +kernel) ?_
  obtain ⟨hi560, hf⟩ := grd_e hf
  refine v_sld C hX hbl hG hi560 559 rfl (by decide +kernel) ?_
  refine v_aload_n C 0 0 rfl 560 rfl (by decide +kernel) ?_
  refine v_iload_n C 3 3 rfl 561 rfl (by decide +kernel) ?_
  refine v_iconst C (2) (2) (by decide) 562 rfl (by decide +kernel) ?_
  refine v_iadd C 563 rfl (by decide +kernel) ?_
  obtain ⟨hi561, hf⟩ := grd_e hf
  refine v_sld C hX hbl hG hi561 564 rfl (by decide +kernel) ?_
  refine v_aload_n C 0 0 rfl 565 rfl (by decide +kernel) ?_
  refine v_iload_n C 3 3 rfl 566 rfl (by decide +kernel) ?_
  refine v_iconst C (3) (3) (by decide) 567 rfl (by decide +kernel) ?_
  refine v_iadd C 568 rfl (by decide +kernel) ?_
  obtain ⟨hi562, hf⟩ := grd_e hf
  refine v_sld C hX hbl hG hi562 569 rfl (by decide +kernel) ?_
  refine v_if_eq C 576 572 rfl (by decide +kernel) (fun h563 => ?_) (fun h563 => ?_)
  · have hf := ite2_t hf h563
    refine v_iconst C (0) (0) (by decide) 577 rfl (by decide +kernel) ?_
    exact t_law_577 G l C hr hX hbl hG hkh18 σ a1 (xs (ns_ix (x3 + (1 : Int32)))) (xs (ns_ix (x3 + (2 : Int32)))) (0 : Int32) a1 a2 x3 hk_a1 hk_a1 hk_a2 hf
  · have hf := ite2_f hf h563
    refine v_iconst C (1) (1) (by decide) 573 rfl (by decide +kernel) ?_
    refine v_goto C 577 (by decide +kernel) ?_
    exact t_law_577 G l C hr hX hbl hG hkh18 σ a1 (xs (ns_ix (x3 + (1 : Int32)))) (xs (ns_ix (x3 + (2 : Int32)))) (1 : Int32) a1 a2 x3 hk_a1 hk_a1 hk_a2 hf
theorem t_law_612 (G : ns_G) (l : Launch) {p : Program} {e : Env} {s : State} {m : MethodId} {below : List Frame} {meth : Method} {c : Code} {b L : Nat} {xs : Nat → Int32} (C : ns_Cx G p s m #[Value.ref b] meth c code "NinthStepLaw" 4) (hr : meth.sig.returnType = ret) (hX : va_X b L xs s s.heap) (hbl : b < s.heap.size) (hG : G.1 = s.heap.size) {σ' : ns_St} {kh18 : ns_St → Nat → Nat → Int32 → Option (Unit × ns_St)} (hkh18 : ∀ (σ : ns_St) (a1 : Nat) (a2 : Nat) (x3 : Int32), ns_kd a1 = 8 → ns_kd a2 = 9 → kh18 σ a1 a2 x3 = some ((), σ') → VV G p l e room_1 s m #[Value.ref b] below meth c 4 82 14211 (lw_Z below #[Value.ref b] s) ns_N σ 18 [(0, .ref b), (1, .ref (G.1 + a1)), (2, .ref (G.1 + a2)), (3, .int x3)] []) (σ : ns_St) (a1 : Nat) (a2 : Nat) (x3 : Int32) (hk_a1 : ns_kd a1 = 8) (hk_a2 : ns_kd a2 = 9) (hf : g_law_612 xs L kh18 σ a1 a2 x3 = some ((), σ')) : VV G p l e room_1 s m #[Value.ref b] below meth c 4 82 14211 (lw_Z below #[Value.ref b] s) ns_N σ 612 [(0, .ref b), (1, .ref (G.1 + a1)), (2, .ref (G.1 + a2)), (3, .int x3)] [] := by
  unfold g_law_612 at hf
  refine v_aload_n C 1 1 rfl 613 rfl (by decide +kernel) ?_
  refine v_aload_n C 0 0 rfl 614 rfl (by decide +kernel) ?_
  refine v_iload_n C 3 3 rfl 615 rfl (by decide +kernel) ?_
  refine v_iconst C (1) (1) (by decide) 616 rfl (by decide +kernel) ?_
  refine v_iadd C 617 rfl (by decide +kernel) ?_
  obtain ⟨hi564, hf⟩ := grd_e hf
  refine v_sld C hX hbl hG hi564 618 rfl (by decide +kernel) ?_
  refine v_aload_n C 0 0 rfl 619 rfl (by decide +kernel) ?_
  refine v_iload_n C 3 3 rfl 620 rfl (by decide +kernel) ?_
  refine v_iconst C (2) (2) (by decide) 621 rfl (by decide +kernel) ?_
  refine v_iadd C 622 rfl (by decide +kernel) ?_
  obtain ⟨hi565, hf⟩ := grd_e hf
  refine v_sld C hX hbl hG hi565 623 rfl (by decide +kernel) ?_
  refine v_aload_n C 0 0 rfl 624 rfl (by decide +kernel) ?_
  refine v_iload_n C 3 3 rfl 625 rfl (by decide +kernel) ?_
  refine v_iconst C (3) (3) (by decide) 626 rfl (by decide +kernel) ?_
  refine v_iadd C 627 rfl (by decide +kernel) ?_
  obtain ⟨hi566, hf⟩ := grd_e hf
  refine v_sld C hX hbl hG hi566 628 rfl (by decide +kernel) ?_
  obtain ⟨r568, σ567, hcr568, hf⟩ := cl2_e hf
  refine v_cV C 8 rfl (ns_kd_lt hk_a1 (by decide)) hk_a1 (by decide) [.int (xs (ns_ix (x3 + (1 : Int32)))), .int (xs (ns_ix (x3 + (2 : Int32)))), .int (xs (ns_ix (x3 + (3 : Int32))))] [] (c_N_mule G l σ a1 (xs (ns_ix (x3 + (1 : Int32)))) (xs (ns_ix (x3 + (2 : Int32)))) (xs (ns_ix (x3 + (3 : Int32)))) hcr568) 58 3 tw_473 tw_470 tw_471 tw_472 tw_1 hd_N_mule rfl ⟨(Nat.le_of_ble_eq_true rfl), (Nat.le_of_ble_eq_true rfl)⟩ ⟨(Nat.le_of_ble_eq_true rfl), (Nat.le_of_ble_eq_true rfl)⟩ (Nat.le_of_ble_eq_true rfl) rfl 631 rfl (by decide +kernel) [.int r568] rfl ?_
  refine v_aload_n C 2 2 rfl 632 rfl (by decide +kernel) ?_
  refine v_aload_n C 0 0 rfl 633 rfl (by decide +kernel) ?_
  refine v_iload_n C 3 3 rfl 634 rfl (by decide +kernel) ?_
  refine v_iconst C (1) (1) (by decide) 635 rfl (by decide +kernel) ?_
  refine v_iadd C 636 rfl (by decide +kernel) ?_
  obtain ⟨hi569, hf⟩ := grd_e hf
  refine v_sld C hX hbl hG hi569 637 rfl (by decide +kernel) ?_
  refine v_aload_n C 0 0 rfl 638 rfl (by decide +kernel) ?_
  refine v_iload_n C 3 3 rfl 639 rfl (by decide +kernel) ?_
  refine v_iconst C (2) (2) (by decide) 640 rfl (by decide +kernel) ?_
  refine v_iadd C 641 rfl (by decide +kernel) ?_
  obtain ⟨hi570, hf⟩ := grd_e hf
  refine v_sld C hX hbl hG hi570 642 rfl (by decide +kernel) ?_
  refine v_aload_n C 0 0 rfl 643 rfl (by decide +kernel) ?_
  refine v_iload_n C 3 3 rfl 644 rfl (by decide +kernel) ?_
  refine v_iconst C (3) (3) (by decide) 645 rfl (by decide +kernel) ?_
  refine v_iadd C 646 rfl (by decide +kernel) ?_
  obtain ⟨hi571, hf⟩ := grd_e hf
  refine v_sld C hX hbl hG hi571 647 rfl (by decide +kernel) ?_
  obtain ⟨r573, σ572, hcr573, hf⟩ := cl2_e hf
  refine v_cV C 9 rfl (ns_kd_lt hk_a2 (by decide)) hk_a2 (by decide) [.int (xs (ns_ix (x3 + (1 : Int32)))), .int (xs (ns_ix (x3 + (2 : Int32)))), .int (xs (ns_ix (x3 + (3 : Int32))))] [.int r568] (c_M_mule G l σ567 a2 (xs (ns_ix (x3 + (1 : Int32)))) (xs (ns_ix (x3 + (2 : Int32)))) (xs (ns_ix (x3 + (3 : Int32)))) hcr573) 61 3 tw_1158 tw_1155 tw_1156 tw_1157 tw_10 hd_M_mule rfl ⟨(Nat.le_of_ble_eq_true rfl), (Nat.le_of_ble_eq_true rfl)⟩ ⟨(Nat.le_of_ble_eq_true rfl), (Nat.le_of_ble_eq_true rfl)⟩ (Nat.le_of_ble_eq_true rfl) rfl 650 rfl (by decide +kernel) [.int r573, .int r568] rfl ?_
  refine v_icmp_eq C 1550 653 rfl (by decide +kernel) (fun h574 => ?_) (fun h574 => ?_)
  · have hf := ite2_t hf h574
    obtain ⟨z575, hz575, hf⟩ := bnd_e hf
    refine v_iinc C 3 (6) 3 z575 rfl (by rw [hz575]; rfl) [(3, .int z575), (0, .ref b), (1, .ref (G.1 + a1)), (2, .ref (G.1 + a2))] (by decide) rfl 1553 rfl (by decide +kernel) ?_
    refine v_goto C 18 (by decide +kernel) ?_
    refine v_sub [1, 2, 3, 0] rfl ?_
    exact hkh18 σ572 a1 a2 z575 hk_a1 hk_a2 hf
  · have hf := ite2_f hf h574
    cases hf
theorem t_law_655 (G : ns_G) (l : Launch) {p : Program} {e : Env} {s : State} {m : MethodId} {below : List Frame} {meth : Method} {c : Code} {b L : Nat} {xs : Nat → Int32} (C : ns_Cx G p s m #[Value.ref b] meth c code "NinthStepLaw" 4) (hr : meth.sig.returnType = ret) (hX : va_X b L xs s s.heap) (hbl : b < s.heap.size) (hG : G.1 = s.heap.size) {σ' : ns_St} {kh18 : ns_St → Nat → Nat → Int32 → Option (Unit × ns_St)} (hkh18 : ∀ (σ : ns_St) (a1 : Nat) (a2 : Nat) (x3 : Int32), ns_kd a1 = 8 → ns_kd a2 = 9 → kh18 σ a1 a2 x3 = some ((), σ') → VV G p l e room_1 s m #[Value.ref b] below meth c 4 82 14211 (lw_Z below #[Value.ref b] s) ns_N σ 18 [(0, .ref b), (1, .ref (G.1 + a1)), (2, .ref (G.1 + a2)), (3, .int x3)] []) (σ : ns_St) (a1 : Nat) (a2 : Nat) (x3 : Int32) (hk_a1 : ns_kd a1 = 8) (hk_a2 : ns_kd a2 = 9) (hf : g_law_655 xs L kh18 σ a1 a2 x3 = some ((), σ')) : VV G p l e room_1 s m #[Value.ref b] below meth c 4 82 14211 (lw_Z below #[Value.ref b] s) ns_N σ 655 [(0, .ref b), (1, .ref (G.1 + a1)), (2, .ref (G.1 + a2)), (3, .int x3)] [] := by
  unfold g_law_655 at hf
  refine v_aload_n C 1 1 rfl 656 rfl (by decide +kernel) ?_
  refine v_aload_n C 0 0 rfl 657 rfl (by decide +kernel) ?_
  refine v_iload_n C 3 3 rfl 658 rfl (by decide +kernel) ?_
  refine v_iconst C (1) (1) (by decide) 659 rfl (by decide +kernel) ?_
  refine v_iadd C 660 rfl (by decide +kernel) ?_
  obtain ⟨hi576, hf⟩ := grd_e hf
  refine v_sld C hX hbl hG hi576 661 rfl (by decide +kernel) ?_
  refine v_aload_n C 0 0 rfl 662 rfl (by decide +kernel) ?_
  refine v_iload_n C 3 3 rfl 663 rfl (by decide +kernel) ?_
  refine v_iconst C (2) (2) (by decide) 664 rfl (by decide +kernel) ?_
  refine v_iadd C 665 rfl (by decide +kernel) ?_
  obtain ⟨hi577, hf⟩ := grd_e hf
  refine v_sld C hX hbl hG hi577 666 rfl (by decide +kernel) ?_
  refine v_aload_n C 0 0 rfl 667 rfl (by decide +kernel) ?_
  refine v_iload_n C 3 3 rfl 668 rfl (by decide +kernel) ?_
  refine v_iconst C (3) (3) (by decide) 669 rfl (by decide +kernel) ?_
  refine v_iadd C 670 rfl (by decide +kernel) ?_
  obtain ⟨hi578, hf⟩ := grd_e hf
  refine v_sld C hX hbl hG hi578 671 rfl (by decide +kernel) ?_
  obtain ⟨r580, σ579, hcr580, hf⟩ := cl2_e hf
  refine v_cV C 8 rfl (ns_kd_lt hk_a1 (by decide)) hk_a1 (by decide) [.int (xs (ns_ix (x3 + (1 : Int32)))), .int (xs (ns_ix (x3 + (2 : Int32)))), .int (xs (ns_ix (x3 + (3 : Int32))))] [] (c_N_stand G l σ a1 (xs (ns_ix (x3 + (1 : Int32)))) (xs (ns_ix (x3 + (2 : Int32)))) (xs (ns_ix (x3 + (3 : Int32)))) hcr580) 62 3 tw_486 tw_483 tw_484 tw_485 tw_1 hd_N_stand rfl ⟨(Nat.le_of_ble_eq_true rfl), (Nat.le_of_ble_eq_true rfl)⟩ ⟨(Nat.le_of_ble_eq_true rfl), (Nat.le_of_ble_eq_true rfl)⟩ (Nat.le_of_ble_eq_true rfl) rfl 674 rfl (by decide +kernel) [.int r580] rfl ?_
  refine v_aload_n C 2 2 rfl 675 rfl (by decide +kernel) ?_
  refine v_aload_n C 0 0 rfl 676 rfl (by decide +kernel) ?_
  refine v_iload_n C 3 3 rfl 677 rfl (by decide +kernel) ?_
  refine v_iconst C (1) (1) (by decide) 678 rfl (by decide +kernel) ?_
  refine v_iadd C 679 rfl (by decide +kernel) ?_
  obtain ⟨hi581, hf⟩ := grd_e hf
  refine v_sld C hX hbl hG hi581 680 rfl (by decide +kernel) ?_
  refine v_aload_n C 0 0 rfl 681 rfl (by decide +kernel) ?_
  refine v_iload_n C 3 3 rfl 682 rfl (by decide +kernel) ?_
  refine v_iconst C (2) (2) (by decide) 683 rfl (by decide +kernel) ?_
  refine v_iadd C 684 rfl (by decide +kernel) ?_
  obtain ⟨hi582, hf⟩ := grd_e hf
  refine v_sld C hX hbl hG hi582 685 rfl (by decide +kernel) ?_
  refine v_aload_n C 0 0 rfl 686 rfl (by decide +kernel) ?_
  refine v_iload_n C 3 3 rfl 687 rfl (by decide +kernel) ?_
  refine v_iconst C (3) (3) (by decide) 688 rfl (by decide +kernel) ?_
  refine v_iadd C 689 rfl (by decide +kernel) ?_
  obtain ⟨hi583, hf⟩ := grd_e hf
  refine v_sld C hX hbl hG hi583 690 rfl (by decide +kernel) ?_
  obtain ⟨r585, σ584, hcr585, hf⟩ := cl2_e hf
  refine v_cV C 9 rfl (ns_kd_lt hk_a2 (by decide)) hk_a2 (by decide) [.int (xs (ns_ix (x3 + (1 : Int32)))), .int (xs (ns_ix (x3 + (2 : Int32)))), .int (xs (ns_ix (x3 + (3 : Int32))))] [.int r580] (c_M_stand G l σ579 a2 (xs (ns_ix (x3 + (1 : Int32)))) (xs (ns_ix (x3 + (2 : Int32)))) (xs (ns_ix (x3 + (3 : Int32)))) hcr585) 65 3 tw_1166 tw_1163 tw_1164 tw_1165 tw_10 hd_M_stand rfl ⟨(Nat.le_of_ble_eq_true rfl), (Nat.le_of_ble_eq_true rfl)⟩ ⟨(Nat.le_of_ble_eq_true rfl), (Nat.le_of_ble_eq_true rfl)⟩ (Nat.le_of_ble_eq_true rfl) rfl 693 rfl (by decide +kernel) [.int r585, .int r580] rfl ?_
  refine v_icmp_eq C 1550 696 rfl (by decide +kernel) (fun h586 => ?_) (fun h586 => ?_)
  · have hf := ite2_t hf h586
    obtain ⟨z587, hz587, hf⟩ := bnd_e hf
    refine v_iinc C 3 (6) 3 z587 rfl (by rw [hz587]; rfl) [(3, .int z587), (0, .ref b), (1, .ref (G.1 + a1)), (2, .ref (G.1 + a2))] (by decide) rfl 1553 rfl (by decide +kernel) ?_
    refine v_goto C 18 (by decide +kernel) ?_
    refine v_sub [1, 2, 3, 0] rfl ?_
    exact hkh18 σ584 a1 a2 z587 hk_a1 hk_a2 hf
  · have hf := ite2_f hf h586
    cases hf
theorem t_law_698 (G : ns_G) (l : Launch) {p : Program} {e : Env} {s : State} {m : MethodId} {below : List Frame} {meth : Method} {c : Code} {b L : Nat} {xs : Nat → Int32} (C : ns_Cx G p s m #[Value.ref b] meth c code "NinthStepLaw" 4) (hr : meth.sig.returnType = ret) (hX : va_X b L xs s s.heap) (hbl : b < s.heap.size) (hG : G.1 = s.heap.size) {σ' : ns_St} {kh18 : ns_St → Nat → Nat → Int32 → Option (Unit × ns_St)} (hkh18 : ∀ (σ : ns_St) (a1 : Nat) (a2 : Nat) (x3 : Int32), ns_kd a1 = 8 → ns_kd a2 = 9 → kh18 σ a1 a2 x3 = some ((), σ') → VV G p l e room_1 s m #[Value.ref b] below meth c 4 82 14211 (lw_Z below #[Value.ref b] s) ns_N σ 18 [(0, .ref b), (1, .ref (G.1 + a1)), (2, .ref (G.1 + a2)), (3, .int x3)] []) (σ : ns_St) (a1 : Nat) (a2 : Nat) (x3 : Int32) (hk_a1 : ns_kd a1 = 8) (hk_a2 : ns_kd a2 = 9) (hf : g_law_698 xs L kh18 σ a1 a2 x3 = some ((), σ')) : VV G p l e room_1 s m #[Value.ref b] below meth c 4 82 14211 (lw_Z below #[Value.ref b] s) ns_N σ 698 [(0, .ref b), (1, .ref (G.1 + a1)), (2, .ref (G.1 + a2)), (3, .int x3)] [] := by
  unfold g_law_698 at hf
  refine v_aload_n C 1 1 rfl 699 rfl (by decide +kernel) ?_
  refine v_aload_n C 0 0 rfl 700 rfl (by decide +kernel) ?_
  refine v_iload_n C 3 3 rfl 701 rfl (by decide +kernel) ?_
  refine v_iconst C (1) (1) (by decide) 702 rfl (by decide +kernel) ?_
  refine v_iadd C 703 rfl (by decide +kernel) ?_
  obtain ⟨hi588, hf⟩ := grd_e hf
  refine v_sld C hX hbl hG hi588 704 rfl (by decide +kernel) ?_
  refine v_aload_n C 0 0 rfl 705 rfl (by decide +kernel) ?_
  refine v_iload_n C 3 3 rfl 706 rfl (by decide +kernel) ?_
  refine v_iconst C (2) (2) (by decide) 707 rfl (by decide +kernel) ?_
  refine v_iadd C 708 rfl (by decide +kernel) ?_
  obtain ⟨hi589, hf⟩ := grd_e hf
  refine v_sld C hX hbl hG hi589 709 rfl (by decide +kernel) ?_
  obtain ⟨r591, σ590, hcr591, hf⟩ := cl2_e hf
  refine v_cV C 8 rfl (ns_kd_lt hk_a1 (by decide)) hk_a1 (by decide) [.int (xs (ns_ix (x3 + (1 : Int32)))), .int (xs (ns_ix (x3 + (2 : Int32))))] [] (c_N_teach G l σ a1 (xs (ns_ix (x3 + (1 : Int32)))) (xs (ns_ix (x3 + (2 : Int32)))) hcr591) 66 2 tw_490 tw_487 tw_488 tw_489 tw_1 hd_N_teach rfl ⟨(Nat.le_of_ble_eq_true rfl), (Nat.le_of_ble_eq_true rfl)⟩ ⟨(Nat.le_of_ble_eq_true rfl), (Nat.le_of_ble_eq_true rfl)⟩ (Nat.le_of_ble_eq_true rfl) rfl 712 rfl (by decide +kernel) [.int r591] rfl ?_
  refine v_aload_n C 2 2 rfl 713 rfl (by decide +kernel) ?_
  refine v_aload_n C 0 0 rfl 714 rfl (by decide +kernel) ?_
  refine v_iload_n C 3 3 rfl 715 rfl (by decide +kernel) ?_
  refine v_iconst C (1) (1) (by decide) 716 rfl (by decide +kernel) ?_
  refine v_iadd C 717 rfl (by decide +kernel) ?_
  obtain ⟨hi592, hf⟩ := grd_e hf
  refine v_sld C hX hbl hG hi592 718 rfl (by decide +kernel) ?_
  refine v_aload_n C 0 0 rfl 719 rfl (by decide +kernel) ?_
  refine v_iload_n C 3 3 rfl 720 rfl (by decide +kernel) ?_
  refine v_iconst C (2) (2) (by decide) 721 rfl (by decide +kernel) ?_
  refine v_iadd C 722 rfl (by decide +kernel) ?_
  obtain ⟨hi593, hf⟩ := grd_e hf
  refine v_sld C hX hbl hG hi593 723 rfl (by decide +kernel) ?_
  obtain ⟨r595, σ594, hcr595, hf⟩ := cl2_e hf
  refine v_cV C 9 rfl (ns_kd_lt hk_a2 (by decide)) hk_a2 (by decide) [.int (xs (ns_ix (x3 + (1 : Int32)))), .int (xs (ns_ix (x3 + (2 : Int32))))] [.int r591] (c_M_teach G l σ590 a2 (xs (ns_ix (x3 + (1 : Int32)))) (xs (ns_ix (x3 + (2 : Int32)))) hcr595) 69 2 tw_1170 tw_1167 tw_1168 tw_1169 tw_10 hd_M_teach rfl ⟨(Nat.le_of_ble_eq_true rfl), (Nat.le_of_ble_eq_true rfl)⟩ ⟨(Nat.le_of_ble_eq_true rfl), (Nat.le_of_ble_eq_true rfl)⟩ (Nat.le_of_ble_eq_true rfl) rfl 726 rfl (by decide +kernel) [.int r595, .int r591] rfl ?_
  refine v_icmp_eq C 1550 729 rfl (by decide +kernel) (fun h596 => ?_) (fun h596 => ?_)
  · have hf := ite2_t hf h596
    obtain ⟨z597, hz597, hf⟩ := bnd_e hf
    refine v_iinc C 3 (6) 3 z597 rfl (by rw [hz597]; rfl) [(3, .int z597), (0, .ref b), (1, .ref (G.1 + a1)), (2, .ref (G.1 + a2))] (by decide) rfl 1553 rfl (by decide +kernel) ?_
    refine v_goto C 18 (by decide +kernel) ?_
    refine v_sub [1, 2, 3, 0] rfl ?_
    exact hkh18 σ594 a1 a2 z597 hk_a1 hk_a2 hf
  · have hf := ite2_f hf h596
    cases hf
theorem t_law_731 (G : ns_G) (l : Launch) {p : Program} {e : Env} {s : State} {m : MethodId} {below : List Frame} {meth : Method} {c : Code} {b L : Nat} {xs : Nat → Int32} (C : ns_Cx G p s m #[Value.ref b] meth c code "NinthStepLaw" 4) (hr : meth.sig.returnType = ret) (hX : va_X b L xs s s.heap) (hbl : b < s.heap.size) (hG : G.1 = s.heap.size) {σ' : ns_St} {kh18 : ns_St → Nat → Nat → Int32 → Option (Unit × ns_St)} (hkh18 : ∀ (σ : ns_St) (a1 : Nat) (a2 : Nat) (x3 : Int32), ns_kd a1 = 8 → ns_kd a2 = 9 → kh18 σ a1 a2 x3 = some ((), σ') → VV G p l e room_1 s m #[Value.ref b] below meth c 4 82 14211 (lw_Z below #[Value.ref b] s) ns_N σ 18 [(0, .ref b), (1, .ref (G.1 + a1)), (2, .ref (G.1 + a2)), (3, .int x3)] []) (σ : ns_St) (a1 : Nat) (a2 : Nat) (x3 : Int32) (hk_a1 : ns_kd a1 = 8) (hk_a2 : ns_kd a2 = 9) (hf : g_law_731 xs L kh18 σ a1 a2 x3 = some ((), σ')) : VV G p l e room_1 s m #[Value.ref b] below meth c 4 82 14211 (lw_Z below #[Value.ref b] s) ns_N σ 731 [(0, .ref b), (1, .ref (G.1 + a1)), (2, .ref (G.1 + a2)), (3, .int x3)] [] := by
  unfold g_law_731 at hf
  refine v_aload_n C 1 1 rfl 732 rfl (by decide +kernel) ?_
  refine v_aload_n C 0 0 rfl 733 rfl (by decide +kernel) ?_
  refine v_iload_n C 3 3 rfl 734 rfl (by decide +kernel) ?_
  refine v_iconst C (1) (1) (by decide) 735 rfl (by decide +kernel) ?_
  refine v_iadd C 736 rfl (by decide +kernel) ?_
  obtain ⟨hi598, hf⟩ := grd_e hf
  refine v_sld C hX hbl hG hi598 737 rfl (by decide +kernel) ?_
  obtain ⟨r600, σ599, hcr600, hf⟩ := cl2_e hf
  refine v_cV C 8 rfl (ns_kd_lt hk_a1 (by decide)) hk_a1 (by decide) [.int (xs (ns_ix (x3 + (1 : Int32))))] [] (c_N_slip G l σ a1 (xs (ns_ix (x3 + (1 : Int32)))) hcr600) 70 1 tw_494 tw_491 tw_492 tw_493 tw_1 hd_N_slip rfl ⟨(Nat.le_of_ble_eq_true rfl), (Nat.le_of_ble_eq_true rfl)⟩ ⟨(Nat.le_of_ble_eq_true rfl), (Nat.le_of_ble_eq_true rfl)⟩ (Nat.le_of_ble_eq_true rfl) rfl 740 rfl (by decide +kernel) [.int r600] rfl ?_
  refine v_aload_n C 2 2 rfl 741 rfl (by decide +kernel) ?_
  refine v_aload_n C 0 0 rfl 742 rfl (by decide +kernel) ?_
  refine v_iload_n C 3 3 rfl 743 rfl (by decide +kernel) ?_
  refine v_iconst C (1) (1) (by decide) 744 rfl (by decide +kernel) ?_
  refine v_iadd C 745 rfl (by decide +kernel) ?_
  obtain ⟨hi601, hf⟩ := grd_e hf
  refine v_sld C hX hbl hG hi601 746 rfl (by decide +kernel) ?_
  obtain ⟨r603, σ602, hcr603, hf⟩ := cl2_e hf
  refine v_cV C 9 rfl (ns_kd_lt hk_a2 (by decide)) hk_a2 (by decide) [.int (xs (ns_ix (x3 + (1 : Int32))))] [.int r600] (c_M_slip G l σ599 a2 (xs (ns_ix (x3 + (1 : Int32)))) hcr603) 73 1 tw_1174 tw_1171 tw_1172 tw_1173 tw_10 hd_M_slip rfl ⟨(Nat.le_of_ble_eq_true rfl), (Nat.le_of_ble_eq_true rfl)⟩ ⟨(Nat.le_of_ble_eq_true rfl), (Nat.le_of_ble_eq_true rfl)⟩ (Nat.le_of_ble_eq_true rfl) rfl 749 rfl (by decide +kernel) [.int r603, .int r600] rfl ?_
  refine v_icmp_eq C 1550 752 rfl (by decide +kernel) (fun h604 => ?_) (fun h604 => ?_)
  · have hf := ite2_t hf h604
    obtain ⟨z605, hz605, hf⟩ := bnd_e hf
    refine v_iinc C 3 (6) 3 z605 rfl (by rw [hz605]; rfl) [(3, .int z605), (0, .ref b), (1, .ref (G.1 + a1)), (2, .ref (G.1 + a2))] (by decide) rfl 1553 rfl (by decide +kernel) ?_
    refine v_goto C 18 (by decide +kernel) ?_
    refine v_sub [1, 2, 3, 0] rfl ?_
    exact hkh18 σ602 a1 a2 z605 hk_a1 hk_a2 hf
  · have hf := ite2_f hf h604
    cases hf
theorem t_law_754 (G : ns_G) (l : Launch) {p : Program} {e : Env} {s : State} {m : MethodId} {below : List Frame} {meth : Method} {c : Code} {b L : Nat} {xs : Nat → Int32} (C : ns_Cx G p s m #[Value.ref b] meth c code "NinthStepLaw" 4) (hr : meth.sig.returnType = ret) (hX : va_X b L xs s s.heap) (hbl : b < s.heap.size) (hG : G.1 = s.heap.size) {σ' : ns_St} {kh18 : ns_St → Nat → Nat → Int32 → Option (Unit × ns_St)} (hkh18 : ∀ (σ : ns_St) (a1 : Nat) (a2 : Nat) (x3 : Int32), ns_kd a1 = 8 → ns_kd a2 = 9 → kh18 σ a1 a2 x3 = some ((), σ') → VV G p l e room_1 s m #[Value.ref b] below meth c 4 82 14211 (lw_Z below #[Value.ref b] s) ns_N σ 18 [(0, .ref b), (1, .ref (G.1 + a1)), (2, .ref (G.1 + a2)), (3, .int x3)] []) (σ : ns_St) (a1 : Nat) (a2 : Nat) (x3 : Int32) (hk_a1 : ns_kd a1 = 8) (hk_a2 : ns_kd a2 = 9) (hf : g_law_754 xs L kh18 σ a1 a2 x3 = some ((), σ')) : VV G p l e room_1 s m #[Value.ref b] below meth c 4 82 14211 (lw_Z below #[Value.ref b] s) ns_N σ 754 [(0, .ref b), (1, .ref (G.1 + a1)), (2, .ref (G.1 + a2)), (3, .int x3)] [] := by
  unfold g_law_754 at hf
  refine v_aload_n C 1 1 rfl 755 rfl (by decide +kernel) ?_
  refine v_aload_n C 0 0 rfl 756 rfl (by decide +kernel) ?_
  refine v_iload_n C 3 3 rfl 757 rfl (by decide +kernel) ?_
  refine v_iconst C (1) (1) (by decide) 758 rfl (by decide +kernel) ?_
  refine v_iadd C 759 rfl (by decide +kernel) ?_
  obtain ⟨hi606, hf⟩ := grd_e hf
  refine v_sld C hX hbl hG hi606 760 rfl (by decide +kernel) ?_
  obtain ⟨r608, σ607, hcr608, hf⟩ := cl2_e hf
  refine v_cV C 8 rfl (ns_kd_lt hk_a1 (by decide)) hk_a1 (by decide) [.int (xs (ns_ix (x3 + (1 : Int32))))] [] (c_N_feed G l σ a1 (xs (ns_ix (x3 + (1 : Int32)))) hcr608) 74 1 tw_498 tw_495 tw_496 tw_497 tw_1 hd_N_feed rfl ⟨(Nat.le_of_ble_eq_true rfl), (Nat.le_of_ble_eq_true rfl)⟩ ⟨(Nat.le_of_ble_eq_true rfl), (Nat.le_of_ble_eq_true rfl)⟩ (Nat.le_of_ble_eq_true rfl) rfl 763 rfl (by decide +kernel) [.int r608] rfl ?_
  refine v_aload_n C 2 2 rfl 764 rfl (by decide +kernel) ?_
  refine v_aload_n C 0 0 rfl 765 rfl (by decide +kernel) ?_
  refine v_iload_n C 3 3 rfl 766 rfl (by decide +kernel) ?_
  refine v_iconst C (1) (1) (by decide) 767 rfl (by decide +kernel) ?_
  refine v_iadd C 768 rfl (by decide +kernel) ?_
  obtain ⟨hi609, hf⟩ := grd_e hf
  refine v_sld C hX hbl hG hi609 769 rfl (by decide +kernel) ?_
  obtain ⟨r611, σ610, hcr611, hf⟩ := cl2_e hf
  refine v_cV C 9 rfl (ns_kd_lt hk_a2 (by decide)) hk_a2 (by decide) [.int (xs (ns_ix (x3 + (1 : Int32))))] [.int r608] (c_M_feed G l σ607 a2 (xs (ns_ix (x3 + (1 : Int32)))) hcr611) 77 1 tw_1178 tw_1175 tw_1176 tw_1177 tw_10 hd_M_feed rfl ⟨(Nat.le_of_ble_eq_true rfl), (Nat.le_of_ble_eq_true rfl)⟩ ⟨(Nat.le_of_ble_eq_true rfl), (Nat.le_of_ble_eq_true rfl)⟩ (Nat.le_of_ble_eq_true rfl) rfl 772 rfl (by decide +kernel) [.int r611, .int r608] rfl ?_
  refine v_icmp_eq C 1550 775 rfl (by decide +kernel) (fun h612 => ?_) (fun h612 => ?_)
  · have hf := ite2_t hf h612
    obtain ⟨z613, hz613, hf⟩ := bnd_e hf
    refine v_iinc C 3 (6) 3 z613 rfl (by rw [hz613]; rfl) [(3, .int z613), (0, .ref b), (1, .ref (G.1 + a1)), (2, .ref (G.1 + a2))] (by decide) rfl 1553 rfl (by decide +kernel) ?_
    refine v_goto C 18 (by decide +kernel) ?_
    refine v_sub [1, 2, 3, 0] rfl ?_
    exact hkh18 σ610 a1 a2 z613 hk_a1 hk_a2 hf
  · have hf := ite2_f hf h612
    cases hf
theorem t_law_777 (G : ns_G) (l : Launch) {p : Program} {e : Env} {s : State} {m : MethodId} {below : List Frame} {meth : Method} {c : Code} {b L : Nat} {xs : Nat → Int32} (C : ns_Cx G p s m #[Value.ref b] meth c code "NinthStepLaw" 4) (hr : meth.sig.returnType = ret) (hX : va_X b L xs s s.heap) (hbl : b < s.heap.size) (hG : G.1 = s.heap.size) {σ' : ns_St} {kh18 : ns_St → Nat → Nat → Int32 → Option (Unit × ns_St)} (hkh18 : ∀ (σ : ns_St) (a1 : Nat) (a2 : Nat) (x3 : Int32), ns_kd a1 = 8 → ns_kd a2 = 9 → kh18 σ a1 a2 x3 = some ((), σ') → VV G p l e room_1 s m #[Value.ref b] below meth c 4 82 14211 (lw_Z below #[Value.ref b] s) ns_N σ 18 [(0, .ref b), (1, .ref (G.1 + a1)), (2, .ref (G.1 + a2)), (3, .int x3)] []) (σ : ns_St) (a1 : Nat) (a2 : Nat) (x3 : Int32) (hk_a1 : ns_kd a1 = 8) (hk_a2 : ns_kd a2 = 9) (hf : g_law_777 xs L kh18 σ a1 a2 x3 = some ((), σ')) : VV G p l e room_1 s m #[Value.ref b] below meth c 4 82 14211 (lw_Z below #[Value.ref b] s) ns_N σ 777 [(0, .ref b), (1, .ref (G.1 + a1)), (2, .ref (G.1 + a2)), (3, .int x3)] [] := by
  unfold g_law_777 at hf
  refine v_aload_n C 1 1 rfl 778 rfl (by decide +kernel) ?_
  obtain ⟨r615, σ614, hcr615, hf⟩ := cl2_e hf
  refine v_cV C 8 rfl (ns_kd_lt hk_a1 (by decide)) hk_a1 (by decide) [] [] (c_N_wipe G l σ a1 hcr615) 78 0 tw_506 tw_503 tw_504 tw_505 tw_1 hd_N_wipe rfl ⟨(Nat.le_of_ble_eq_true rfl), (Nat.le_of_ble_eq_true rfl)⟩ ⟨(Nat.le_of_ble_eq_true rfl), (Nat.le_of_ble_eq_true rfl)⟩ (Nat.le_of_ble_eq_true rfl) rfl 781 rfl (by decide +kernel) [.int r615] rfl ?_
  refine v_aload_n C 2 2 rfl 782 rfl (by decide +kernel) ?_
  obtain ⟨r617, σ616, hcr617, hf⟩ := cl2_e hf
  refine v_cV C 9 rfl (ns_kd_lt hk_a2 (by decide)) hk_a2 (by decide) [] [.int r615] (c_M_wipe G l σ614 a2 hcr617) 82 0 tw_1182 tw_1179 tw_1180 tw_1181 tw_10 hd_M_wipe rfl ⟨(Nat.le_of_ble_eq_true rfl), (Nat.le_of_ble_eq_true rfl)⟩ ⟨(Nat.le_of_ble_eq_true rfl), (Nat.le_of_ble_eq_true rfl)⟩ (Nat.le_of_ble_eq_true rfl) rfl 785 rfl (by decide +kernel) [.int r617, .int r615] rfl ?_
  refine v_icmp_eq C 1550 788 rfl (by decide +kernel) (fun h618 => ?_) (fun h618 => ?_)
  · have hf := ite2_t hf h618
    obtain ⟨z619, hz619, hf⟩ := bnd_e hf
    refine v_iinc C 3 (6) 3 z619 rfl (by rw [hz619]; rfl) [(3, .int z619), (0, .ref b), (1, .ref (G.1 + a1)), (2, .ref (G.1 + a2))] (by decide) rfl 1553 rfl (by decide +kernel) ?_
    refine v_goto C 18 (by decide +kernel) ?_
    refine v_sub [1, 2, 3, 0] rfl ?_
    exact hkh18 σ616 a1 a2 z619 hk_a1 hk_a2 hf
  · have hf := ite2_f hf h618
    cases hf
theorem t_law_790 (G : ns_G) (l : Launch) {p : Program} {e : Env} {s : State} {m : MethodId} {below : List Frame} {meth : Method} {c : Code} {b L : Nat} {xs : Nat → Int32} (C : ns_Cx G p s m #[Value.ref b] meth c code "NinthStepLaw" 4) (hr : meth.sig.returnType = ret) (hX : va_X b L xs s s.heap) (hbl : b < s.heap.size) (hG : G.1 = s.heap.size) {σ' : ns_St} {kh18 : ns_St → Nat → Nat → Int32 → Option (Unit × ns_St)} (hkh18 : ∀ (σ : ns_St) (a1 : Nat) (a2 : Nat) (x3 : Int32), ns_kd a1 = 8 → ns_kd a2 = 9 → kh18 σ a1 a2 x3 = some ((), σ') → VV G p l e room_1 s m #[Value.ref b] below meth c 4 82 14211 (lw_Z below #[Value.ref b] s) ns_N σ 18 [(0, .ref b), (1, .ref (G.1 + a1)), (2, .ref (G.1 + a2)), (3, .int x3)] []) (σ : ns_St) (a1 : Nat) (a2 : Nat) (x3 : Int32) (hk_a1 : ns_kd a1 = 8) (hk_a2 : ns_kd a2 = 9) (hf : g_law_790 xs L kh18 σ a1 a2 x3 = some ((), σ')) : VV G p l e room_1 s m #[Value.ref b] below meth c 4 82 14211 (lw_Z below #[Value.ref b] s) ns_N σ 790 [(0, .ref b), (1, .ref (G.1 + a1)), (2, .ref (G.1 + a2)), (3, .int x3)] [] := by
  unfold g_law_790 at hf
  refine v_aload_n C 1 1 rfl 791 rfl (by decide +kernel) ?_
  obtain ⟨r621, σ620, hcr621, hf⟩ := cl2_e hf
  refine v_cV C 8 rfl (ns_kd_lt hk_a1 (by decide)) hk_a1 (by decide) [] [] (c_N_pass G l σ a1 hcr621) 83 0 tw_510 tw_507 tw_508 tw_509 tw_1 hd_N_pass rfl ⟨(Nat.le_of_ble_eq_true rfl), (Nat.le_of_ble_eq_true rfl)⟩ ⟨(Nat.le_of_ble_eq_true rfl), (Nat.le_of_ble_eq_true rfl)⟩ (Nat.le_of_ble_eq_true rfl) rfl 794 rfl (by decide +kernel) [.int r621] rfl ?_
  refine v_aload_n C 2 2 rfl 795 rfl (by decide +kernel) ?_
  obtain ⟨r623, σ622, hcr623, hf⟩ := cl2_e hf
  refine v_cV C 9 rfl (ns_kd_lt hk_a2 (by decide)) hk_a2 (by decide) [] [.int r621] (c_M_pass G l σ620 a2 hcr623) 86 0 tw_1186 tw_1183 tw_1184 tw_1185 tw_10 hd_M_pass rfl ⟨(Nat.le_of_ble_eq_true rfl), (Nat.le_of_ble_eq_true rfl)⟩ ⟨(Nat.le_of_ble_eq_true rfl), (Nat.le_of_ble_eq_true rfl)⟩ (Nat.le_of_ble_eq_true rfl) rfl 798 rfl (by decide +kernel) [.int r623, .int r621] rfl ?_
  refine v_icmp_eq C 1550 801 rfl (by decide +kernel) (fun h624 => ?_) (fun h624 => ?_)
  · have hf := ite2_t hf h624
    obtain ⟨z625, hz625, hf⟩ := bnd_e hf
    refine v_iinc C 3 (6) 3 z625 rfl (by rw [hz625]; rfl) [(3, .int z625), (0, .ref b), (1, .ref (G.1 + a1)), (2, .ref (G.1 + a2))] (by decide) rfl 1553 rfl (by decide +kernel) ?_
    refine v_goto C 18 (by decide +kernel) ?_
    refine v_sub [1, 2, 3, 0] rfl ?_
    exact hkh18 σ622 a1 a2 z625 hk_a1 hk_a2 hf
  · have hf := ite2_f hf h624
    cases hf
theorem t_law_803 (G : ns_G) (l : Launch) {p : Program} {e : Env} {s : State} {m : MethodId} {below : List Frame} {meth : Method} {c : Code} {b L : Nat} {xs : Nat → Int32} (C : ns_Cx G p s m #[Value.ref b] meth c code "NinthStepLaw" 4) (hr : meth.sig.returnType = ret) (hX : va_X b L xs s s.heap) (hbl : b < s.heap.size) (hG : G.1 = s.heap.size) {σ' : ns_St} {kh18 : ns_St → Nat → Nat → Int32 → Option (Unit × ns_St)} (hkh18 : ∀ (σ : ns_St) (a1 : Nat) (a2 : Nat) (x3 : Int32), ns_kd a1 = 8 → ns_kd a2 = 9 → kh18 σ a1 a2 x3 = some ((), σ') → VV G p l e room_1 s m #[Value.ref b] below meth c 4 82 14211 (lw_Z below #[Value.ref b] s) ns_N σ 18 [(0, .ref b), (1, .ref (G.1 + a1)), (2, .ref (G.1 + a2)), (3, .int x3)] []) (σ : ns_St) (a1 : Nat) (a2 : Nat) (x3 : Int32) (hk_a1 : ns_kd a1 = 8) (hk_a2 : ns_kd a2 = 9) (hf : g_law_803 xs L kh18 σ a1 a2 x3 = some ((), σ')) : VV G p l e room_1 s m #[Value.ref b] below meth c 4 82 14211 (lw_Z below #[Value.ref b] s) ns_N σ 803 [(0, .ref b), (1, .ref (G.1 + a1)), (2, .ref (G.1 + a2)), (3, .int x3)] [] := by
  unfold g_law_803 at hf
  refine v_aload_n C 1 1 rfl 804 rfl (by decide +kernel) ?_
  refine v_aload_n C 0 0 rfl 805 rfl (by decide +kernel) ?_
  refine v_iload_n C 3 3 rfl 806 rfl (by decide +kernel) ?_
  refine v_iconst C (1) (1) (by decide) 807 rfl (by decide +kernel) ?_
  refine v_iadd C 808 rfl (by decide +kernel) ?_
  obtain ⟨hi626, hf⟩ := grd_e hf
  refine v_sld C hX hbl hG hi626 809 rfl (by decide +kernel) ?_
  refine v_aload_n C 0 0 rfl 810 rfl (by decide +kernel) ?_
  refine v_iload_n C 3 3 rfl 811 rfl (by decide +kernel) ?_
  refine v_iconst C (2) (2) (by decide) 812 rfl (by decide +kernel) ?_
  refine v_iadd C 813 rfl (by decide +kernel) ?_
  obtain ⟨hi627, hf⟩ := grd_e hf
  refine v_sld C hX hbl hG hi627 814 rfl (by decide +kernel) ?_
  obtain ⟨r629, σ628, hcr629, hf⟩ := cl2_e hf
  refine v_cV C 8 rfl (ns_kd_lt hk_a1 (by decide)) hk_a1 (by decide) [.int (xs (ns_ix (x3 + (1 : Int32)))), .int (xs (ns_ix (x3 + (2 : Int32))))] [] (c_N_muleOf G l σ a1 (xs (ns_ix (x3 + (1 : Int32)))) (xs (ns_ix (x3 + (2 : Int32)))) hcr629) 87 2 tw_631 tw_628 tw_629 tw_630 tw_1 hd_N_muleOf rfl ⟨(Nat.le_of_ble_eq_true rfl), (Nat.le_of_ble_eq_true rfl)⟩ ⟨(Nat.le_of_ble_eq_true rfl), (Nat.le_of_ble_eq_true rfl)⟩ (Nat.le_of_ble_eq_true rfl) rfl 817 rfl (by decide +kernel) [.int r629] rfl ?_
  refine v_aload_n C 2 2 rfl 818 rfl (by decide +kernel) ?_
  refine v_aload_n C 0 0 rfl 819 rfl (by decide +kernel) ?_
  refine v_iload_n C 3 3 rfl 820 rfl (by decide +kernel) ?_
  refine v_iconst C (1) (1) (by decide) 821 rfl (by decide +kernel) ?_
  refine v_iadd C 822 rfl (by decide +kernel) ?_
  obtain ⟨hi630, hf⟩ := grd_e hf
  refine v_sld C hX hbl hG hi630 823 rfl (by decide +kernel) ?_
  refine v_aload_n C 0 0 rfl 824 rfl (by decide +kernel) ?_
  refine v_iload_n C 3 3 rfl 825 rfl (by decide +kernel) ?_
  refine v_iconst C (2) (2) (by decide) 826 rfl (by decide +kernel) ?_
  refine v_iadd C 827 rfl (by decide +kernel) ?_
  obtain ⟨hi631, hf⟩ := grd_e hf
  refine v_sld C hX hbl hG hi631 828 rfl (by decide +kernel) ?_
  obtain ⟨r633, σ632, hcr633, hf⟩ := cl2_e hf
  refine v_cV C 9 rfl (ns_kd_lt hk_a2 (by decide)) hk_a2 (by decide) [.int (xs (ns_ix (x3 + (1 : Int32)))), .int (xs (ns_ix (x3 + (2 : Int32))))] [.int r629] (c_M_muleOf G l σ628 a2 (xs (ns_ix (x3 + (1 : Int32)))) (xs (ns_ix (x3 + (2 : Int32)))) hcr633) 90 2 tw_1230 tw_1227 tw_1228 tw_1229 tw_10 hd_M_muleOf rfl ⟨(Nat.le_of_ble_eq_true rfl), (Nat.le_of_ble_eq_true rfl)⟩ ⟨(Nat.le_of_ble_eq_true rfl), (Nat.le_of_ble_eq_true rfl)⟩ (Nat.le_of_ble_eq_true rfl) rfl 831 rfl (by decide +kernel) [.int r633, .int r629] rfl ?_
  refine v_icmp_eq C 1550 834 rfl (by decide +kernel) (fun h634 => ?_) (fun h634 => ?_)
  · have hf := ite2_t hf h634
    obtain ⟨z635, hz635, hf⟩ := bnd_e hf
    refine v_iinc C 3 (6) 3 z635 rfl (by rw [hz635]; rfl) [(3, .int z635), (0, .ref b), (1, .ref (G.1 + a1)), (2, .ref (G.1 + a2))] (by decide) rfl 1553 rfl (by decide +kernel) ?_
    refine v_goto C 18 (by decide +kernel) ?_
    refine v_sub [1, 2, 3, 0] rfl ?_
    exact hkh18 σ632 a1 a2 z635 hk_a1 hk_a2 hf
  · have hf := ite2_f hf h634
    cases hf
theorem t_law_836 (G : ns_G) (l : Launch) {p : Program} {e : Env} {s : State} {m : MethodId} {below : List Frame} {meth : Method} {c : Code} {b L : Nat} {xs : Nat → Int32} (C : ns_Cx G p s m #[Value.ref b] meth c code "NinthStepLaw" 4) (hr : meth.sig.returnType = ret) (hX : va_X b L xs s s.heap) (hbl : b < s.heap.size) (hG : G.1 = s.heap.size) {σ' : ns_St} {kh18 : ns_St → Nat → Nat → Int32 → Option (Unit × ns_St)} (hkh18 : ∀ (σ : ns_St) (a1 : Nat) (a2 : Nat) (x3 : Int32), ns_kd a1 = 8 → ns_kd a2 = 9 → kh18 σ a1 a2 x3 = some ((), σ') → VV G p l e room_1 s m #[Value.ref b] below meth c 4 82 14211 (lw_Z below #[Value.ref b] s) ns_N σ 18 [(0, .ref b), (1, .ref (G.1 + a1)), (2, .ref (G.1 + a2)), (3, .int x3)] []) (σ : ns_St) (a1 : Nat) (a2 : Nat) (x3 : Int32) (hk_a1 : ns_kd a1 = 8) (hk_a2 : ns_kd a2 = 9) (hf : g_law_836 xs L kh18 σ a1 a2 x3 = some ((), σ')) : VV G p l e room_1 s m #[Value.ref b] below meth c 4 82 14211 (lw_Z below #[Value.ref b] s) ns_N σ 836 [(0, .ref b), (1, .ref (G.1 + a1)), (2, .ref (G.1 + a2)), (3, .int x3)] [] := by
  unfold g_law_836 at hf
  refine v_aload_n C 1 1 rfl 837 rfl (by decide +kernel) ?_
  refine v_aload_n C 0 0 rfl 838 rfl (by decide +kernel) ?_
  refine v_iload_n C 3 3 rfl 839 rfl (by decide +kernel) ?_
  refine v_iconst C (1) (1) (by decide) 840 rfl (by decide +kernel) ?_
  refine v_iadd C 841 rfl (by decide +kernel) ?_
  obtain ⟨hi636, hf⟩ := grd_e hf
  refine v_sld C hX hbl hG hi636 842 rfl (by decide +kernel) ?_
  obtain ⟨r638, σ637, hcr638, hf⟩ := cl2_e hf
  refine v_cV C 8 rfl (ns_kd_lt hk_a1 (by decide)) hk_a1 (by decide) [.int (xs (ns_ix (x3 + (1 : Int32))))] [] (c_N_placeOf G l σ a1 (xs (ns_ix (x3 + (1 : Int32)))) hcr638) 91 1 tw_635 tw_632 tw_633 tw_634 tw_1 hd_N_placeOf rfl ⟨(Nat.le_of_ble_eq_true rfl), (Nat.le_of_ble_eq_true rfl)⟩ ⟨(Nat.le_of_ble_eq_true rfl), (Nat.le_of_ble_eq_true rfl)⟩ (Nat.le_of_ble_eq_true rfl) rfl 845 rfl (by decide +kernel) [.int r638] rfl ?_
  refine v_aload_n C 2 2 rfl 846 rfl (by decide +kernel) ?_
  refine v_aload_n C 0 0 rfl 847 rfl (by decide +kernel) ?_
  refine v_iload_n C 3 3 rfl 848 rfl (by decide +kernel) ?_
  refine v_iconst C (1) (1) (by decide) 849 rfl (by decide +kernel) ?_
  refine v_iadd C 850 rfl (by decide +kernel) ?_
  obtain ⟨hi639, hf⟩ := grd_e hf
  refine v_sld C hX hbl hG hi639 851 rfl (by decide +kernel) ?_
  obtain ⟨r641, σ640, hcr641, hf⟩ := cl2_e hf
  refine v_cV C 9 rfl (ns_kd_lt hk_a2 (by decide)) hk_a2 (by decide) [.int (xs (ns_ix (x3 + (1 : Int32))))] [.int r638] (c_M_placeOf G l σ637 a2 (xs (ns_ix (x3 + (1 : Int32)))) hcr641) 94 1 tw_1234 tw_1231 tw_1232 tw_1233 tw_10 hd_M_placeOf rfl ⟨(Nat.le_of_ble_eq_true rfl), (Nat.le_of_ble_eq_true rfl)⟩ ⟨(Nat.le_of_ble_eq_true rfl), (Nat.le_of_ble_eq_true rfl)⟩ (Nat.le_of_ble_eq_true rfl) rfl 854 rfl (by decide +kernel) [.int r641, .int r638] rfl ?_
  refine v_icmp_eq C 1550 857 rfl (by decide +kernel) (fun h642 => ?_) (fun h642 => ?_)
  · have hf := ite2_t hf h642
    obtain ⟨z643, hz643, hf⟩ := bnd_e hf
    refine v_iinc C 3 (6) 3 z643 rfl (by rw [hz643]; rfl) [(3, .int z643), (0, .ref b), (1, .ref (G.1 + a1)), (2, .ref (G.1 + a2))] (by decide) rfl 1553 rfl (by decide +kernel) ?_
    refine v_goto C 18 (by decide +kernel) ?_
    refine v_sub [1, 2, 3, 0] rfl ?_
    exact hkh18 σ640 a1 a2 z643 hk_a1 hk_a2 hf
  · have hf := ite2_f hf h642
    cases hf
theorem t_law_859 (G : ns_G) (l : Launch) {p : Program} {e : Env} {s : State} {m : MethodId} {below : List Frame} {meth : Method} {c : Code} {b L : Nat} {xs : Nat → Int32} (C : ns_Cx G p s m #[Value.ref b] meth c code "NinthStepLaw" 4) (hr : meth.sig.returnType = ret) (hX : va_X b L xs s s.heap) (hbl : b < s.heap.size) (hG : G.1 = s.heap.size) {σ' : ns_St} {kh18 : ns_St → Nat → Nat → Int32 → Option (Unit × ns_St)} (hkh18 : ∀ (σ : ns_St) (a1 : Nat) (a2 : Nat) (x3 : Int32), ns_kd a1 = 8 → ns_kd a2 = 9 → kh18 σ a1 a2 x3 = some ((), σ') → VV G p l e room_1 s m #[Value.ref b] below meth c 4 82 14211 (lw_Z below #[Value.ref b] s) ns_N σ 18 [(0, .ref b), (1, .ref (G.1 + a1)), (2, .ref (G.1 + a2)), (3, .int x3)] []) (σ : ns_St) (a1 : Nat) (a2 : Nat) (x3 : Int32) (hk_a1 : ns_kd a1 = 8) (hk_a2 : ns_kd a2 = 9) (hf : g_law_859 xs L kh18 σ a1 a2 x3 = some ((), σ')) : VV G p l e room_1 s m #[Value.ref b] below meth c 4 82 14211 (lw_Z below #[Value.ref b] s) ns_N σ 859 [(0, .ref b), (1, .ref (G.1 + a1)), (2, .ref (G.1 + a2)), (3, .int x3)] [] := by
  unfold g_law_859 at hf
  refine v_aload_n C 1 1 rfl 860 rfl (by decide +kernel) ?_
  refine v_aload_n C 0 0 rfl 861 rfl (by decide +kernel) ?_
  refine v_iload_n C 3 3 rfl 862 rfl (by decide +kernel) ?_
  refine v_iconst C (1) (1) (by decide) 863 rfl (by decide +kernel) ?_
  refine v_iadd C 864 rfl (by decide +kernel) ?_
  obtain ⟨hi644, hf⟩ := grd_e hf
  refine v_sld C hX hbl hG hi644 865 rfl (by decide +kernel) ?_
  refine v_aload_n C 0 0 rfl 866 rfl (by decide +kernel) ?_
  refine v_iload_n C 3 3 rfl 867 rfl (by decide +kernel) ?_
  refine v_iconst C (2) (2) (by decide) 868 rfl (by decide +kernel) ?_
  refine v_iadd C 869 rfl (by decide +kernel) ?_
  obtain ⟨hi645, hf⟩ := grd_e hf
  refine v_sld C hX hbl hG hi645 870 rfl (by decide +kernel) ?_
  obtain ⟨r647, σ646, hcr647, hf⟩ := cl2_e hf
  refine v_cV C 8 rfl (ns_kd_lt hk_a1 (by decide)) hk_a1 (by decide) [.int (xs (ns_ix (x3 + (1 : Int32)))), .int (xs (ns_ix (x3 + (2 : Int32))))] [] (c_N_stops G l σ a1 (xs (ns_ix (x3 + (1 : Int32)))) (xs (ns_ix (x3 + (2 : Int32)))) hcr647) 95 2 tw_639 tw_636 tw_637 tw_638 tw_1 hd_N_stops rfl ⟨(Nat.le_of_ble_eq_true rfl), (Nat.le_of_ble_eq_true rfl)⟩ ⟨(Nat.le_of_ble_eq_true rfl), (Nat.le_of_ble_eq_true rfl)⟩ (Nat.le_of_ble_eq_true rfl) rfl 873 rfl (by decide +kernel) [.int r647] rfl ?_
  refine v_aload_n C 2 2 rfl 874 rfl (by decide +kernel) ?_
  refine v_aload_n C 0 0 rfl 875 rfl (by decide +kernel) ?_
  refine v_iload_n C 3 3 rfl 876 rfl (by decide +kernel) ?_
  refine v_iconst C (1) (1) (by decide) 877 rfl (by decide +kernel) ?_
  refine v_iadd C 878 rfl (by decide +kernel) ?_
  obtain ⟨hi648, hf⟩ := grd_e hf
  refine v_sld C hX hbl hG hi648 879 rfl (by decide +kernel) ?_
  refine v_aload_n C 0 0 rfl 880 rfl (by decide +kernel) ?_
  refine v_iload_n C 3 3 rfl 881 rfl (by decide +kernel) ?_
  refine v_iconst C (2) (2) (by decide) 882 rfl (by decide +kernel) ?_
  refine v_iadd C 883 rfl (by decide +kernel) ?_
  obtain ⟨hi649, hf⟩ := grd_e hf
  refine v_sld C hX hbl hG hi649 884 rfl (by decide +kernel) ?_
  obtain ⟨r651, σ650, hcr651, hf⟩ := cl2_e hf
  refine v_cV C 9 rfl (ns_kd_lt hk_a2 (by decide)) hk_a2 (by decide) [.int (xs (ns_ix (x3 + (1 : Int32)))), .int (xs (ns_ix (x3 + (2 : Int32))))] [.int r647] (c_M_stops G l σ646 a2 (xs (ns_ix (x3 + (1 : Int32)))) (xs (ns_ix (x3 + (2 : Int32)))) hcr651) 98 2 tw_1238 tw_1235 tw_1236 tw_1237 tw_10 hd_M_stops rfl ⟨(Nat.le_of_ble_eq_true rfl), (Nat.le_of_ble_eq_true rfl)⟩ ⟨(Nat.le_of_ble_eq_true rfl), (Nat.le_of_ble_eq_true rfl)⟩ (Nat.le_of_ble_eq_true rfl) rfl 887 rfl (by decide +kernel) [.int r651, .int r647] rfl ?_
  refine v_icmp_eq C 1550 890 rfl (by decide +kernel) (fun h652 => ?_) (fun h652 => ?_)
  · have hf := ite2_t hf h652
    obtain ⟨z653, hz653, hf⟩ := bnd_e hf
    refine v_iinc C 3 (6) 3 z653 rfl (by rw [hz653]; rfl) [(3, .int z653), (0, .ref b), (1, .ref (G.1 + a1)), (2, .ref (G.1 + a2))] (by decide) rfl 1553 rfl (by decide +kernel) ?_
    refine v_goto C 18 (by decide +kernel) ?_
    refine v_sub [1, 2, 3, 0] rfl ?_
    exact hkh18 σ650 a1 a2 z653 hk_a1 hk_a2 hf
  · have hf := ite2_f hf h652
    cases hf
theorem t_law_892 (G : ns_G) (l : Launch) {p : Program} {e : Env} {s : State} {m : MethodId} {below : List Frame} {meth : Method} {c : Code} {b L : Nat} {xs : Nat → Int32} (C : ns_Cx G p s m #[Value.ref b] meth c code "NinthStepLaw" 4) (hr : meth.sig.returnType = ret) (hX : va_X b L xs s s.heap) (hbl : b < s.heap.size) (hG : G.1 = s.heap.size) {σ' : ns_St} {kh18 : ns_St → Nat → Nat → Int32 → Option (Unit × ns_St)} (hkh18 : ∀ (σ : ns_St) (a1 : Nat) (a2 : Nat) (x3 : Int32), ns_kd a1 = 8 → ns_kd a2 = 9 → kh18 σ a1 a2 x3 = some ((), σ') → VV G p l e room_1 s m #[Value.ref b] below meth c 4 82 14211 (lw_Z below #[Value.ref b] s) ns_N σ 18 [(0, .ref b), (1, .ref (G.1 + a1)), (2, .ref (G.1 + a2)), (3, .int x3)] []) (σ : ns_St) (a1 : Nat) (a2 : Nat) (x3 : Int32) (hk_a1 : ns_kd a1 = 8) (hk_a2 : ns_kd a2 = 9) (hf : g_law_892 xs L kh18 σ a1 a2 x3 = some ((), σ')) : VV G p l e room_1 s m #[Value.ref b] below meth c 4 82 14211 (lw_Z below #[Value.ref b] s) ns_N σ 892 [(0, .ref b), (1, .ref (G.1 + a1)), (2, .ref (G.1 + a2)), (3, .int x3)] [] := by
  unfold g_law_892 at hf
  refine v_aload_n C 1 1 rfl 893 rfl (by decide +kernel) ?_
  refine v_aload_n C 0 0 rfl 894 rfl (by decide +kernel) ?_
  refine v_iload_n C 3 3 rfl 895 rfl (by decide +kernel) ?_
  refine v_iconst C (1) (1) (by decide) 896 rfl (by decide +kernel) ?_
  refine v_iadd C 897 rfl (by decide +kernel) ?_
  obtain ⟨hi654, hf⟩ := grd_e hf
  refine v_sld C hX hbl hG hi654 898 rfl (by decide +kernel) ?_
  obtain ⟨r656, σ655, hcr656, hf⟩ := cl2_e hf
  refine v_cV C 8 rfl (ns_kd_lt hk_a1 (by decide)) hk_a1 (by decide) [.int (xs (ns_ix (x3 + (1 : Int32))))] [] (c_N_minutes G l σ a1 (xs (ns_ix (x3 + (1 : Int32)))) hcr656) 99 1 tw_668 tw_665 tw_666 tw_667 tw_1 hd_N_minutes rfl ⟨(Nat.le_of_ble_eq_true rfl), (Nat.le_of_ble_eq_true rfl)⟩ ⟨(Nat.le_of_ble_eq_true rfl), (Nat.le_of_ble_eq_true rfl)⟩ (Nat.le_of_ble_eq_true rfl) rfl 901 rfl (by decide +kernel) [.int r656] rfl ?_
  refine v_aload_n C 2 2 rfl 902 rfl (by decide +kernel) ?_
  refine v_aload_n C 0 0 rfl 903 rfl (by decide +kernel) ?_
  refine v_iload_n C 3 3 rfl 904 rfl (by decide +kernel) ?_
  refine v_iconst C (1) (1) (by decide) 905 rfl (by decide +kernel) ?_
  refine v_iadd C 906 rfl (by decide +kernel) ?_
  obtain ⟨hi657, hf⟩ := grd_e hf
  refine v_sld C hX hbl hG hi657 907 rfl (by decide +kernel) ?_
  obtain ⟨r659, σ658, hcr659, hf⟩ := cl2_e hf
  refine v_cV C 9 rfl (ns_kd_lt hk_a2 (by decide)) hk_a2 (by decide) [.int (xs (ns_ix (x3 + (1 : Int32))))] [.int r656] (c_M_minutes G l σ655 a2 (xs (ns_ix (x3 + (1 : Int32)))) hcr659) 102 1 tw_1255 tw_1252 tw_1253 tw_1254 tw_10 hd_M_minutes rfl ⟨(Nat.le_of_ble_eq_true rfl), (Nat.le_of_ble_eq_true rfl)⟩ ⟨(Nat.le_of_ble_eq_true rfl), (Nat.le_of_ble_eq_true rfl)⟩ (Nat.le_of_ble_eq_true rfl) rfl 910 rfl (by decide +kernel) [.int r659, .int r656] rfl ?_
  refine v_icmp_eq C 1550 913 rfl (by decide +kernel) (fun h660 => ?_) (fun h660 => ?_)
  · have hf := ite2_t hf h660
    obtain ⟨z661, hz661, hf⟩ := bnd_e hf
    refine v_iinc C 3 (6) 3 z661 rfl (by rw [hz661]; rfl) [(3, .int z661), (0, .ref b), (1, .ref (G.1 + a1)), (2, .ref (G.1 + a2))] (by decide) rfl 1553 rfl (by decide +kernel) ?_
    refine v_goto C 18 (by decide +kernel) ?_
    refine v_sub [1, 2, 3, 0] rfl ?_
    exact hkh18 σ658 a1 a2 z661 hk_a1 hk_a2 hf
  · have hf := ite2_f hf h660
    cases hf
theorem t_law_915 (G : ns_G) (l : Launch) {p : Program} {e : Env} {s : State} {m : MethodId} {below : List Frame} {meth : Method} {c : Code} {b L : Nat} {xs : Nat → Int32} (C : ns_Cx G p s m #[Value.ref b] meth c code "NinthStepLaw" 4) (hr : meth.sig.returnType = ret) (hX : va_X b L xs s s.heap) (hbl : b < s.heap.size) (hG : G.1 = s.heap.size) {σ' : ns_St} {kh18 : ns_St → Nat → Nat → Int32 → Option (Unit × ns_St)} (hkh18 : ∀ (σ : ns_St) (a1 : Nat) (a2 : Nat) (x3 : Int32), ns_kd a1 = 8 → ns_kd a2 = 9 → kh18 σ a1 a2 x3 = some ((), σ') → VV G p l e room_1 s m #[Value.ref b] below meth c 4 82 14211 (lw_Z below #[Value.ref b] s) ns_N σ 18 [(0, .ref b), (1, .ref (G.1 + a1)), (2, .ref (G.1 + a2)), (3, .int x3)] []) (σ : ns_St) (a1 : Nat) (a2 : Nat) (x3 : Int32) (hk_a1 : ns_kd a1 = 8) (hk_a2 : ns_kd a2 = 9) (hf : g_law_915 xs L kh18 σ a1 a2 x3 = some ((), σ')) : VV G p l e room_1 s m #[Value.ref b] below meth c 4 82 14211 (lw_Z below #[Value.ref b] s) ns_N σ 915 [(0, .ref b), (1, .ref (G.1 + a1)), (2, .ref (G.1 + a2)), (3, .int x3)] [] := by
  unfold g_law_915 at hf
  refine v_aload_n C 1 1 rfl 916 rfl (by decide +kernel) ?_
  refine v_aload_n C 0 0 rfl 917 rfl (by decide +kernel) ?_
  refine v_iload_n C 3 3 rfl 918 rfl (by decide +kernel) ?_
  refine v_iconst C (1) (1) (by decide) 919 rfl (by decide +kernel) ?_
  refine v_iadd C 920 rfl (by decide +kernel) ?_
  obtain ⟨hi662, hf⟩ := grd_e hf
  refine v_sld C hX hbl hG hi662 921 rfl (by decide +kernel) ?_
  refine v_aload_n C 0 0 rfl 922 rfl (by decide +kernel) ?_
  refine v_iload_n C 3 3 rfl 923 rfl (by decide +kernel) ?_
  refine v_iconst C (2) (2) (by decide) 924 rfl (by decide +kernel) ?_
  refine v_iadd C 925 rfl (by decide +kernel) ?_
  obtain ⟨hi663, hf⟩ := grd_e hf
  refine v_sld C hX hbl hG hi663 926 rfl (by decide +kernel) ?_
  obtain ⟨r665, σ664, hcr665, hf⟩ := cl2_e hf
  refine v_cV C 8 rfl (ns_kd_lt hk_a1 (by decide)) hk_a1 (by decide) [.int (xs (ns_ix (x3 + (1 : Int32)))), .int (xs (ns_ix (x3 + (2 : Int32))))] [] (c_N_after G l σ a1 (xs (ns_ix (x3 + (1 : Int32)))) (xs (ns_ix (x3 + (2 : Int32)))) hcr665) 103 2 tw_676 tw_673 tw_674 tw_675 tw_1 hd_N_after rfl ⟨(Nat.le_of_ble_eq_true rfl), (Nat.le_of_ble_eq_true rfl)⟩ ⟨(Nat.le_of_ble_eq_true rfl), (Nat.le_of_ble_eq_true rfl)⟩ (Nat.le_of_ble_eq_true rfl) rfl 929 rfl (by decide +kernel) [.int r665] rfl ?_
  refine v_aload_n C 2 2 rfl 930 rfl (by decide +kernel) ?_
  refine v_aload_n C 0 0 rfl 931 rfl (by decide +kernel) ?_
  refine v_iload_n C 3 3 rfl 932 rfl (by decide +kernel) ?_
  refine v_iconst C (1) (1) (by decide) 933 rfl (by decide +kernel) ?_
  refine v_iadd C 934 rfl (by decide +kernel) ?_
  obtain ⟨hi666, hf⟩ := grd_e hf
  refine v_sld C hX hbl hG hi666 935 rfl (by decide +kernel) ?_
  refine v_aload_n C 0 0 rfl 936 rfl (by decide +kernel) ?_
  refine v_iload_n C 3 3 rfl 937 rfl (by decide +kernel) ?_
  refine v_iconst C (2) (2) (by decide) 938 rfl (by decide +kernel) ?_
  refine v_iadd C 939 rfl (by decide +kernel) ?_
  obtain ⟨hi667, hf⟩ := grd_e hf
  refine v_sld C hX hbl hG hi667 940 rfl (by decide +kernel) ?_
  obtain ⟨r669, σ668, hcr669, hf⟩ := cl2_e hf
  refine v_cV C 9 rfl (ns_kd_lt hk_a2 (by decide)) hk_a2 (by decide) [.int (xs (ns_ix (x3 + (1 : Int32)))), .int (xs (ns_ix (x3 + (2 : Int32))))] [.int r665] (c_M_after G l σ664 a2 (xs (ns_ix (x3 + (1 : Int32)))) (xs (ns_ix (x3 + (2 : Int32)))) hcr669) 106 2 tw_1263 tw_1260 tw_1261 tw_1262 tw_10 hd_M_after rfl ⟨(Nat.le_of_ble_eq_true rfl), (Nat.le_of_ble_eq_true rfl)⟩ ⟨(Nat.le_of_ble_eq_true rfl), (Nat.le_of_ble_eq_true rfl)⟩ (Nat.le_of_ble_eq_true rfl) rfl 943 rfl (by decide +kernel) [.int r669, .int r665] rfl ?_
  refine v_icmp_eq C 1550 946 rfl (by decide +kernel) (fun h670 => ?_) (fun h670 => ?_)
  · have hf := ite2_t hf h670
    obtain ⟨z671, hz671, hf⟩ := bnd_e hf
    refine v_iinc C 3 (6) 3 z671 rfl (by rw [hz671]; rfl) [(3, .int z671), (0, .ref b), (1, .ref (G.1 + a1)), (2, .ref (G.1 + a2))] (by decide) rfl 1553 rfl (by decide +kernel) ?_
    refine v_goto C 18 (by decide +kernel) ?_
    refine v_sub [1, 2, 3, 0] rfl ?_
    exact hkh18 σ668 a1 a2 z671 hk_a1 hk_a2 hf
  · have hf := ite2_f hf h670
    cases hf
theorem t_law_948 (G : ns_G) (l : Launch) {p : Program} {e : Env} {s : State} {m : MethodId} {below : List Frame} {meth : Method} {c : Code} {b L : Nat} {xs : Nat → Int32} (C : ns_Cx G p s m #[Value.ref b] meth c code "NinthStepLaw" 4) (hr : meth.sig.returnType = ret) (hX : va_X b L xs s s.heap) (hbl : b < s.heap.size) (hG : G.1 = s.heap.size) {σ' : ns_St} {kh18 : ns_St → Nat → Nat → Int32 → Option (Unit × ns_St)} (hkh18 : ∀ (σ : ns_St) (a1 : Nat) (a2 : Nat) (x3 : Int32), ns_kd a1 = 8 → ns_kd a2 = 9 → kh18 σ a1 a2 x3 = some ((), σ') → VV G p l e room_1 s m #[Value.ref b] below meth c 4 82 14211 (lw_Z below #[Value.ref b] s) ns_N σ 18 [(0, .ref b), (1, .ref (G.1 + a1)), (2, .ref (G.1 + a2)), (3, .int x3)] []) (σ : ns_St) (a1 : Nat) (a2 : Nat) (x3 : Int32) (hk_a1 : ns_kd a1 = 8) (hk_a2 : ns_kd a2 = 9) (hf : g_law_948 xs L kh18 σ a1 a2 x3 = some ((), σ')) : VV G p l e room_1 s m #[Value.ref b] below meth c 4 82 14211 (lw_Z below #[Value.ref b] s) ns_N σ 948 [(0, .ref b), (1, .ref (G.1 + a1)), (2, .ref (G.1 + a2)), (3, .int x3)] [] := by
  unfold g_law_948 at hf
  refine v_aload_n C 1 1 rfl 949 rfl (by decide +kernel) ?_
  refine v_aload_n C 0 0 rfl 950 rfl (by decide +kernel) ?_
  refine v_iload_n C 3 3 rfl 951 rfl (by decide +kernel) ?_
  refine v_iconst C (1) (1) (by decide) 952 rfl (by decide +kernel) ?_
  refine v_iadd C 953 rfl (by decide +kernel) ?_
  obtain ⟨hi672, hf⟩ := grd_e hf
  refine v_sld C hX hbl hG hi672 954 rfl (by decide +kernel) ?_
  obtain ⟨r674, σ673, hcr674, hf⟩ := cl2_e hf
  refine v_cV C 8 rfl (ns_kd_lt hk_a1 (by decide)) hk_a1 (by decide) [.int (xs (ns_ix (x3 + (1 : Int32))))] [] (c_N_good G l σ a1 (xs (ns_ix (x3 + (1 : Int32)))) hcr674) 107 1 tw_686 tw_683 tw_684 tw_685 tw_1 hd_N_good rfl ⟨(Nat.le_of_ble_eq_true rfl), (Nat.le_of_ble_eq_true rfl)⟩ ⟨(Nat.le_of_ble_eq_true rfl), (Nat.le_of_ble_eq_true rfl)⟩ (Nat.le_of_ble_eq_true rfl) rfl 957 rfl (by decide +kernel) [.int r674] rfl ?_
  refine v_aload_n C 2 2 rfl 958 rfl (by decide +kernel) ?_
  refine v_aload_n C 0 0 rfl 959 rfl (by decide +kernel) ?_
  refine v_iload_n C 3 3 rfl 960 rfl (by decide +kernel) ?_
  refine v_iconst C (1) (1) (by decide) 961 rfl (by decide +kernel) ?_
  refine v_iadd C 962 rfl (by decide +kernel) ?_
  obtain ⟨hi675, hf⟩ := grd_e hf
  refine v_sld C hX hbl hG hi675 963 rfl (by decide +kernel) ?_
  obtain ⟨r677, σ676, hcr677, hf⟩ := cl2_e hf
  refine v_cV C 9 rfl (ns_kd_lt hk_a2 (by decide)) hk_a2 (by decide) [.int (xs (ns_ix (x3 + (1 : Int32))))] [.int r674] (c_M_good G l σ673 a2 (xs (ns_ix (x3 + (1 : Int32)))) hcr677) 110 1 tw_1271 tw_1268 tw_1269 tw_1270 tw_10 hd_M_good rfl ⟨(Nat.le_of_ble_eq_true rfl), (Nat.le_of_ble_eq_true rfl)⟩ ⟨(Nat.le_of_ble_eq_true rfl), (Nat.le_of_ble_eq_true rfl)⟩ (Nat.le_of_ble_eq_true rfl) rfl 966 rfl (by decide +kernel) [.int r677, .int r674] rfl ?_
  refine v_icmp_eq C 1550 969 rfl (by decide +kernel) (fun h678 => ?_) (fun h678 => ?_)
  · have hf := ite2_t hf h678
    obtain ⟨z679, hz679, hf⟩ := bnd_e hf
    refine v_iinc C 3 (6) 3 z679 rfl (by rw [hz679]; rfl) [(3, .int z679), (0, .ref b), (1, .ref (G.1 + a1)), (2, .ref (G.1 + a2))] (by decide) rfl 1553 rfl (by decide +kernel) ?_
    refine v_goto C 18 (by decide +kernel) ?_
    refine v_sub [1, 2, 3, 0] rfl ?_
    exact hkh18 σ676 a1 a2 z679 hk_a1 hk_a2 hf
  · have hf := ite2_f hf h678
    cases hf
theorem t_law_971 (G : ns_G) (l : Launch) {p : Program} {e : Env} {s : State} {m : MethodId} {below : List Frame} {meth : Method} {c : Code} {b L : Nat} {xs : Nat → Int32} (C : ns_Cx G p s m #[Value.ref b] meth c code "NinthStepLaw" 4) (hr : meth.sig.returnType = ret) (hX : va_X b L xs s s.heap) (hbl : b < s.heap.size) (hG : G.1 = s.heap.size) {σ' : ns_St} {kh18 : ns_St → Nat → Nat → Int32 → Option (Unit × ns_St)} (hkh18 : ∀ (σ : ns_St) (a1 : Nat) (a2 : Nat) (x3 : Int32), ns_kd a1 = 8 → ns_kd a2 = 9 → kh18 σ a1 a2 x3 = some ((), σ') → VV G p l e room_1 s m #[Value.ref b] below meth c 4 82 14211 (lw_Z below #[Value.ref b] s) ns_N σ 18 [(0, .ref b), (1, .ref (G.1 + a1)), (2, .ref (G.1 + a2)), (3, .int x3)] []) (σ : ns_St) (a1 : Nat) (a2 : Nat) (x3 : Int32) (hk_a1 : ns_kd a1 = 8) (hk_a2 : ns_kd a2 = 9) (hf : g_law_971 xs L kh18 σ a1 a2 x3 = some ((), σ')) : VV G p l e room_1 s m #[Value.ref b] below meth c 4 82 14211 (lw_Z below #[Value.ref b] s) ns_N σ 971 [(0, .ref b), (1, .ref (G.1 + a1)), (2, .ref (G.1 + a2)), (3, .int x3)] [] := by
  unfold g_law_971 at hf
  refine v_aload_n C 1 1 rfl 972 rfl (by decide +kernel) ?_
  refine v_aload_n C 0 0 rfl 973 rfl (by decide +kernel) ?_
  refine v_iload_n C 3 3 rfl 974 rfl (by decide +kernel) ?_
  refine v_iconst C (1) (1) (by decide) 975 rfl (by decide +kernel) ?_
  refine v_iadd C 976 rfl (by decide +kernel) ?_
  obtain ⟨hi680, hf⟩ := grd_e hf
  refine v_sld C hX hbl hG hi680 977 rfl (by decide +kernel) ?_
  obtain ⟨r682, σ681, hcr682, hf⟩ := cl2_e hf
  refine v_cV C 8 rfl (ns_kd_lt hk_a1 (by decide)) hk_a1 (by decide) [.int (xs (ns_ix (x3 + (1 : Int32))))] [] (c_N_falls G l σ a1 (xs (ns_ix (x3 + (1 : Int32)))) hcr682) 111 1 tw_699 tw_696 tw_697 tw_698 tw_1 hd_N_falls rfl ⟨(Nat.le_of_ble_eq_true rfl), (Nat.le_of_ble_eq_true rfl)⟩ ⟨(Nat.le_of_ble_eq_true rfl), (Nat.le_of_ble_eq_true rfl)⟩ (Nat.le_of_ble_eq_true rfl) rfl 980 rfl (by decide +kernel) [.int r682] rfl ?_
  refine v_aload_n C 2 2 rfl 981 rfl (by decide +kernel) ?_
  refine v_aload_n C 0 0 rfl 982 rfl (by decide +kernel) ?_
  refine v_iload_n C 3 3 rfl 983 rfl (by decide +kernel) ?_
  refine v_iconst C (1) (1) (by decide) 984 rfl (by decide +kernel) ?_
  refine v_iadd C 985 rfl (by decide +kernel) ?_
  obtain ⟨hi683, hf⟩ := grd_e hf
  refine v_sld C hX hbl hG hi683 986 rfl (by decide +kernel) ?_
  obtain ⟨r685, σ684, hcr685, hf⟩ := cl2_e hf
  refine v_cV C 9 rfl (ns_kd_lt hk_a2 (by decide)) hk_a2 (by decide) [.int (xs (ns_ix (x3 + (1 : Int32))))] [.int r682] (c_M_falls G l σ681 a2 (xs (ns_ix (x3 + (1 : Int32)))) hcr685) 114 1 tw_1283 tw_1280 tw_1281 tw_1282 tw_10 hd_M_falls rfl ⟨(Nat.le_of_ble_eq_true rfl), (Nat.le_of_ble_eq_true rfl)⟩ ⟨(Nat.le_of_ble_eq_true rfl), (Nat.le_of_ble_eq_true rfl)⟩ (Nat.le_of_ble_eq_true rfl) rfl 989 rfl (by decide +kernel) [.int r685, .int r682] rfl ?_
  refine v_icmp_eq C 1550 992 rfl (by decide +kernel) (fun h686 => ?_) (fun h686 => ?_)
  · have hf := ite2_t hf h686
    obtain ⟨z687, hz687, hf⟩ := bnd_e hf
    refine v_iinc C 3 (6) 3 z687 rfl (by rw [hz687]; rfl) [(3, .int z687), (0, .ref b), (1, .ref (G.1 + a1)), (2, .ref (G.1 + a2))] (by decide) rfl 1553 rfl (by decide +kernel) ?_
    refine v_goto C 18 (by decide +kernel) ?_
    refine v_sub [1, 2, 3, 0] rfl ?_
    exact hkh18 σ684 a1 a2 z687 hk_a1 hk_a2 hf
  · have hf := ite2_f hf h686
    cases hf
theorem t_law_994 (G : ns_G) (l : Launch) {p : Program} {e : Env} {s : State} {m : MethodId} {below : List Frame} {meth : Method} {c : Code} {b L : Nat} {xs : Nat → Int32} (C : ns_Cx G p s m #[Value.ref b] meth c code "NinthStepLaw" 4) (hr : meth.sig.returnType = ret) (hX : va_X b L xs s s.heap) (hbl : b < s.heap.size) (hG : G.1 = s.heap.size) {σ' : ns_St} {kh18 : ns_St → Nat → Nat → Int32 → Option (Unit × ns_St)} (hkh18 : ∀ (σ : ns_St) (a1 : Nat) (a2 : Nat) (x3 : Int32), ns_kd a1 = 8 → ns_kd a2 = 9 → kh18 σ a1 a2 x3 = some ((), σ') → VV G p l e room_1 s m #[Value.ref b] below meth c 4 82 14211 (lw_Z below #[Value.ref b] s) ns_N σ 18 [(0, .ref b), (1, .ref (G.1 + a1)), (2, .ref (G.1 + a2)), (3, .int x3)] []) (σ : ns_St) (a1 : Nat) (a2 : Nat) (x3 : Int32) (hk_a1 : ns_kd a1 = 8) (hk_a2 : ns_kd a2 = 9) (hf : g_law_994 xs L kh18 σ a1 a2 x3 = some ((), σ')) : VV G p l e room_1 s m #[Value.ref b] below meth c 4 82 14211 (lw_Z below #[Value.ref b] s) ns_N σ 994 [(0, .ref b), (1, .ref (G.1 + a1)), (2, .ref (G.1 + a2)), (3, .int x3)] [] := by
  unfold g_law_994 at hf
  refine v_aload_n C 1 1 rfl 995 rfl (by decide +kernel) ?_
  refine v_aload_n C 0 0 rfl 996 rfl (by decide +kernel) ?_
  refine v_iload_n C 3 3 rfl 997 rfl (by decide +kernel) ?_
  refine v_iconst C (1) (1) (by decide) 998 rfl (by decide +kernel) ?_
  refine v_iadd C 999 rfl (by decide +kernel) ?_
  obtain ⟨hi688, hf⟩ := grd_e hf
  refine v_sld C hX hbl hG hi688 1000 rfl (by decide +kernel) ?_
  obtain ⟨r690, σ689, hcr690, hf⟩ := cl2_e hf
  refine v_cV C 8 rfl (ns_kd_lt hk_a1 (by decide)) hk_a1 (by decide) [.int (xs (ns_ix (x3 + (1 : Int32))))] [] (c_N_missed G l σ a1 (xs (ns_ix (x3 + (1 : Int32)))) hcr690) 115 1 tw_703 tw_700 tw_701 tw_702 tw_1 hd_N_missed rfl ⟨(Nat.le_of_ble_eq_true rfl), (Nat.le_of_ble_eq_true rfl)⟩ ⟨(Nat.le_of_ble_eq_true rfl), (Nat.le_of_ble_eq_true rfl)⟩ (Nat.le_of_ble_eq_true rfl) rfl 1003 rfl (by decide +kernel) [.int r690] rfl ?_
  refine v_aload_n C 2 2 rfl 1004 rfl (by decide +kernel) ?_
  refine v_aload_n C 0 0 rfl 1005 rfl (by decide +kernel) ?_
  refine v_iload_n C 3 3 rfl 1006 rfl (by decide +kernel) ?_
  refine v_iconst C (1) (1) (by decide) 1007 rfl (by decide +kernel) ?_
  refine v_iadd C 1008 rfl (by decide +kernel) ?_
  obtain ⟨hi691, hf⟩ := grd_e hf
  refine v_sld C hX hbl hG hi691 1009 rfl (by decide +kernel) ?_
  obtain ⟨r693, σ692, hcr693, hf⟩ := cl2_e hf
  refine v_cV C 9 rfl (ns_kd_lt hk_a2 (by decide)) hk_a2 (by decide) [.int (xs (ns_ix (x3 + (1 : Int32))))] [.int r690] (c_M_missed G l σ689 a2 (xs (ns_ix (x3 + (1 : Int32)))) hcr693) 118 1 tw_1287 tw_1284 tw_1285 tw_1286 tw_10 hd_M_missed rfl ⟨(Nat.le_of_ble_eq_true rfl), (Nat.le_of_ble_eq_true rfl)⟩ ⟨(Nat.le_of_ble_eq_true rfl), (Nat.le_of_ble_eq_true rfl)⟩ (Nat.le_of_ble_eq_true rfl) rfl 1012 rfl (by decide +kernel) [.int r693, .int r690] rfl ?_
  refine v_icmp_eq C 1550 1015 rfl (by decide +kernel) (fun h694 => ?_) (fun h694 => ?_)
  · have hf := ite2_t hf h694
    obtain ⟨z695, hz695, hf⟩ := bnd_e hf
    refine v_iinc C 3 (6) 3 z695 rfl (by rw [hz695]; rfl) [(3, .int z695), (0, .ref b), (1, .ref (G.1 + a1)), (2, .ref (G.1 + a2))] (by decide) rfl 1553 rfl (by decide +kernel) ?_
    refine v_goto C 18 (by decide +kernel) ?_
    refine v_sub [1, 2, 3, 0] rfl ?_
    exact hkh18 σ692 a1 a2 z695 hk_a1 hk_a2 hf
  · have hf := ite2_f hf h694
    cases hf
theorem t_law_1017 (G : ns_G) (l : Launch) {p : Program} {e : Env} {s : State} {m : MethodId} {below : List Frame} {meth : Method} {c : Code} {b L : Nat} {xs : Nat → Int32} (C : ns_Cx G p s m #[Value.ref b] meth c code "NinthStepLaw" 4) (hr : meth.sig.returnType = ret) (hX : va_X b L xs s s.heap) (hbl : b < s.heap.size) (hG : G.1 = s.heap.size) {σ' : ns_St} {kh18 : ns_St → Nat → Nat → Int32 → Option (Unit × ns_St)} (hkh18 : ∀ (σ : ns_St) (a1 : Nat) (a2 : Nat) (x3 : Int32), ns_kd a1 = 8 → ns_kd a2 = 9 → kh18 σ a1 a2 x3 = some ((), σ') → VV G p l e room_1 s m #[Value.ref b] below meth c 4 82 14211 (lw_Z below #[Value.ref b] s) ns_N σ 18 [(0, .ref b), (1, .ref (G.1 + a1)), (2, .ref (G.1 + a2)), (3, .int x3)] []) (σ : ns_St) (a1 : Nat) (a2 : Nat) (x3 : Int32) (hk_a1 : ns_kd a1 = 8) (hk_a2 : ns_kd a2 = 9) (hf : g_law_1017 xs L kh18 σ a1 a2 x3 = some ((), σ')) : VV G p l e room_1 s m #[Value.ref b] below meth c 4 82 14211 (lw_Z below #[Value.ref b] s) ns_N σ 1017 [(0, .ref b), (1, .ref (G.1 + a1)), (2, .ref (G.1 + a2)), (3, .int x3)] [] := by
  unfold g_law_1017 at hf
  refine v_aload_n C 1 1 rfl 1018 rfl (by decide +kernel) ?_
  refine v_aload_n C 0 0 rfl 1019 rfl (by decide +kernel) ?_
  refine v_iload_n C 3 3 rfl 1020 rfl (by decide +kernel) ?_
  refine v_iconst C (1) (1) (by decide) 1021 rfl (by decide +kernel) ?_
  refine v_iadd C 1022 rfl (by decide +kernel) ?_
  obtain ⟨hi696, hf⟩ := grd_e hf
  refine v_sld C hX hbl hG hi696 1023 rfl (by decide +kernel) ?_
  refine v_aload_n C 0 0 rfl 1024 rfl (by decide +kernel) ?_
  refine v_iload_n C 3 3 rfl 1025 rfl (by decide +kernel) ?_
  refine v_iconst C (2) (2) (by decide) 1026 rfl (by decide +kernel) ?_
  refine v_iadd C 1027 rfl (by decide +kernel) ?_
  obtain ⟨hi697, hf⟩ := grd_e hf
  refine v_sld C hX hbl hG hi697 1028 rfl (by decide +kernel) ?_
  obtain ⟨r699, σ698, hcr699, hf⟩ := cl2_e hf
  refine v_cV C 8 rfl (ns_kd_lt hk_a1 (by decide)) hk_a1 (by decide) [.int (xs (ns_ix (x3 + (1 : Int32)))), .int (xs (ns_ix (x3 + (2 : Int32))))] [] (c_N_turns G l σ a1 (xs (ns_ix (x3 + (1 : Int32)))) (xs (ns_ix (x3 + (2 : Int32)))) hcr699) 119 2 tw_707 tw_704 tw_705 tw_706 tw_1 hd_N_turns rfl ⟨(Nat.le_of_ble_eq_true rfl), (Nat.le_of_ble_eq_true rfl)⟩ ⟨(Nat.le_of_ble_eq_true rfl), (Nat.le_of_ble_eq_true rfl)⟩ (Nat.le_of_ble_eq_true rfl) rfl 1031 rfl (by decide +kernel) [.int r699] rfl ?_
  refine v_aload_n C 2 2 rfl 1032 rfl (by decide +kernel) ?_
  refine v_aload_n C 0 0 rfl 1033 rfl (by decide +kernel) ?_
  refine v_iload_n C 3 3 rfl 1034 rfl (by decide +kernel) ?_
  refine v_iconst C (1) (1) (by decide) 1035 rfl (by decide +kernel) ?_
  refine v_iadd C 1036 rfl (by decide +kernel) ?_
  obtain ⟨hi700, hf⟩ := grd_e hf
  refine v_sld C hX hbl hG hi700 1037 rfl (by decide +kernel) ?_
  refine v_aload_n C 0 0 rfl 1038 rfl (by decide +kernel) ?_
  refine v_iload_n C 3 3 rfl 1039 rfl (by decide +kernel) ?_
  refine v_iconst C (2) (2) (by decide) 1040 rfl (by decide +kernel) ?_
  refine v_iadd C 1041 rfl (by decide +kernel) ?_
  obtain ⟨hi701, hf⟩ := grd_e hf
  refine v_sld C hX hbl hG hi701 1042 rfl (by decide +kernel) ?_
  obtain ⟨r703, σ702, hcr703, hf⟩ := cl2_e hf
  refine v_cV C 9 rfl (ns_kd_lt hk_a2 (by decide)) hk_a2 (by decide) [.int (xs (ns_ix (x3 + (1 : Int32)))), .int (xs (ns_ix (x3 + (2 : Int32))))] [.int r699] (c_M_turns G l σ698 a2 (xs (ns_ix (x3 + (1 : Int32)))) (xs (ns_ix (x3 + (2 : Int32)))) hcr703) 122 2 tw_1291 tw_1288 tw_1289 tw_1290 tw_10 hd_M_turns rfl ⟨(Nat.le_of_ble_eq_true rfl), (Nat.le_of_ble_eq_true rfl)⟩ ⟨(Nat.le_of_ble_eq_true rfl), (Nat.le_of_ble_eq_true rfl)⟩ (Nat.le_of_ble_eq_true rfl) rfl 1045 rfl (by decide +kernel) [.int r703, .int r699] rfl ?_
  refine v_icmp_eq C 1550 1048 rfl (by decide +kernel) (fun h704 => ?_) (fun h704 => ?_)
  · have hf := ite2_t hf h704
    obtain ⟨z705, hz705, hf⟩ := bnd_e hf
    refine v_iinc C 3 (6) 3 z705 rfl (by rw [hz705]; rfl) [(3, .int z705), (0, .ref b), (1, .ref (G.1 + a1)), (2, .ref (G.1 + a2))] (by decide) rfl 1553 rfl (by decide +kernel) ?_
    refine v_goto C 18 (by decide +kernel) ?_
    refine v_sub [1, 2, 3, 0] rfl ?_
    exact hkh18 σ702 a1 a2 z705 hk_a1 hk_a2 hf
  · have hf := ite2_f hf h704
    cases hf
theorem t_law_1050 (G : ns_G) (l : Launch) {p : Program} {e : Env} {s : State} {m : MethodId} {below : List Frame} {meth : Method} {c : Code} {b L : Nat} {xs : Nat → Int32} (C : ns_Cx G p s m #[Value.ref b] meth c code "NinthStepLaw" 4) (hr : meth.sig.returnType = ret) (hX : va_X b L xs s s.heap) (hbl : b < s.heap.size) (hG : G.1 = s.heap.size) {σ' : ns_St} {kh18 : ns_St → Nat → Nat → Int32 → Option (Unit × ns_St)} (hkh18 : ∀ (σ : ns_St) (a1 : Nat) (a2 : Nat) (x3 : Int32), ns_kd a1 = 8 → ns_kd a2 = 9 → kh18 σ a1 a2 x3 = some ((), σ') → VV G p l e room_1 s m #[Value.ref b] below meth c 4 82 14211 (lw_Z below #[Value.ref b] s) ns_N σ 18 [(0, .ref b), (1, .ref (G.1 + a1)), (2, .ref (G.1 + a2)), (3, .int x3)] []) (σ : ns_St) (a1 : Nat) (a2 : Nat) (x3 : Int32) (hk_a1 : ns_kd a1 = 8) (hk_a2 : ns_kd a2 = 9) (hf : g_law_1050 xs L kh18 σ a1 a2 x3 = some ((), σ')) : VV G p l e room_1 s m #[Value.ref b] below meth c 4 82 14211 (lw_Z below #[Value.ref b] s) ns_N σ 1050 [(0, .ref b), (1, .ref (G.1 + a1)), (2, .ref (G.1 + a2)), (3, .int x3)] [] := by
  unfold g_law_1050 at hf
  refine v_aload_n C 1 1 rfl 1051 rfl (by decide +kernel) ?_
  refine v_aload_n C 0 0 rfl 1052 rfl (by decide +kernel) ?_
  refine v_iload_n C 3 3 rfl 1053 rfl (by decide +kernel) ?_
  refine v_iconst C (1) (1) (by decide) 1054 rfl (by decide +kernel) ?_
  refine v_iadd C 1055 rfl (by decide +kernel) ?_
  obtain ⟨hi706, hf⟩ := grd_e hf
  refine v_sld C hX hbl hG hi706 1056 rfl (by decide +kernel) ?_
  refine v_aload_n C 0 0 rfl 1057 rfl (by decide +kernel) ?_
  refine v_iload_n C 3 3 rfl 1058 rfl (by decide +kernel) ?_
  refine v_iconst C (2) (2) (by decide) 1059 rfl (by decide +kernel) ?_
  refine v_iadd C 1060 rfl (by decide +kernel) ?_
  obtain ⟨hi707, hf⟩ := grd_e hf
  refine v_sld C hX hbl hG hi707 1061 rfl (by decide +kernel) ?_
  refine v_aload_n C 0 0 rfl 1062 rfl (by decide +kernel) ?_
  refine v_iload_n C 3 3 rfl 1063 rfl (by decide +kernel) ?_
  refine v_iconst C (3) (3) (by decide) 1064 rfl (by decide +kernel) ?_
  refine v_iadd C 1065 rfl (by decide +kernel) ?_
  obtain ⟨hi708, hf⟩ := grd_e hf
  refine v_sld C hX hbl hG hi708 1066 rfl (by decide +kernel) ?_
  obtain ⟨r710, σ709, hcr710, hf⟩ := cl2_e hf
  refine v_cV C 8 rfl (ns_kd_lt hk_a1 (by decide)) hk_a1 (by decide) [.int (xs (ns_ix (x3 + (1 : Int32)))), .int (xs (ns_ix (x3 + (2 : Int32)))), .int (xs (ns_ix (x3 + (3 : Int32))))] [] (c_N_roped G l σ a1 (xs (ns_ix (x3 + (1 : Int32)))) (xs (ns_ix (x3 + (2 : Int32)))) (xs (ns_ix (x3 + (3 : Int32)))) hcr710) 123 3 tw_754 tw_751 tw_752 tw_753 tw_1 hd_N_roped rfl ⟨(Nat.le_of_ble_eq_true rfl), (Nat.le_of_ble_eq_true rfl)⟩ ⟨(Nat.le_of_ble_eq_true rfl), (Nat.le_of_ble_eq_true rfl)⟩ (Nat.le_of_ble_eq_true rfl) rfl 1069 rfl (by decide +kernel) [.int r710] rfl ?_
  refine v_aload_n C 2 2 rfl 1070 rfl (by decide +kernel) ?_
  refine v_aload_n C 0 0 rfl 1071 rfl (by decide +kernel) ?_
  refine v_iload_n C 3 3 rfl 1072 rfl (by decide +kernel) ?_
  refine v_iconst C (1) (1) (by decide) 1073 rfl (by decide +kernel) ?_
  refine v_iadd C 1074 rfl (by decide +kernel) ?_
  obtain ⟨hi711, hf⟩ := grd_e hf
  refine v_sld C hX hbl hG hi711 1075 rfl (by decide +kernel) ?_
  refine v_aload_n C 0 0 rfl 1076 rfl (by decide +kernel) ?_
  refine v_iload_n C 3 3 rfl 1077 rfl (by decide +kernel) ?_
  refine v_iconst C (2) (2) (by decide) 1078 rfl (by decide +kernel) ?_
  refine v_iadd C 1079 rfl (by decide +kernel) ?_
  obtain ⟨hi712, hf⟩ := grd_e hf
  refine v_sld C hX hbl hG hi712 1080 rfl (by decide +kernel) ?_
  refine v_aload_n C 0 0 rfl 1081 rfl (by decide +kernel) ?_
  refine v_iload_n C 3 3 rfl 1082 rfl (by decide +kernel) ?_
  refine v_iconst C (3) (3) (by decide) 1083 rfl (by decide +kernel) ?_
  refine v_iadd C 1084 rfl (by decide +kernel) ?_
  obtain ⟨hi713, hf⟩ := grd_e hf
  refine v_sld C hX hbl hG hi713 1085 rfl (by decide +kernel) ?_
  obtain ⟨r715, σ714, hcr715, hf⟩ := cl2_e hf
  refine v_cV C 9 rfl (ns_kd_lt hk_a2 (by decide)) hk_a2 (by decide) [.int (xs (ns_ix (x3 + (1 : Int32)))), .int (xs (ns_ix (x3 + (2 : Int32)))), .int (xs (ns_ix (x3 + (3 : Int32))))] [.int r710] (c_M_roped G l σ709 a2 (xs (ns_ix (x3 + (1 : Int32)))) (xs (ns_ix (x3 + (2 : Int32)))) (xs (ns_ix (x3 + (3 : Int32)))) hcr715) 126 3 tw_1303 tw_1300 tw_1301 tw_1302 tw_10 hd_M_roped rfl ⟨(Nat.le_of_ble_eq_true rfl), (Nat.le_of_ble_eq_true rfl)⟩ ⟨(Nat.le_of_ble_eq_true rfl), (Nat.le_of_ble_eq_true rfl)⟩ (Nat.le_of_ble_eq_true rfl) rfl 1088 rfl (by decide +kernel) [.int r715, .int r710] rfl ?_
  refine v_icmp_eq C 1550 1091 rfl (by decide +kernel) (fun h716 => ?_) (fun h716 => ?_)
  · have hf := ite2_t hf h716
    obtain ⟨z717, hz717, hf⟩ := bnd_e hf
    refine v_iinc C 3 (6) 3 z717 rfl (by rw [hz717]; rfl) [(3, .int z717), (0, .ref b), (1, .ref (G.1 + a1)), (2, .ref (G.1 + a2))] (by decide) rfl 1553 rfl (by decide +kernel) ?_
    refine v_goto C 18 (by decide +kernel) ?_
    refine v_sub [1, 2, 3, 0] rfl ?_
    exact hkh18 σ714 a1 a2 z717 hk_a1 hk_a2 hf
  · have hf := ite2_f hf h716
    cases hf
theorem t_law_1093 (G : ns_G) (l : Launch) {p : Program} {e : Env} {s : State} {m : MethodId} {below : List Frame} {meth : Method} {c : Code} {b L : Nat} {xs : Nat → Int32} (C : ns_Cx G p s m #[Value.ref b] meth c code "NinthStepLaw" 4) (hr : meth.sig.returnType = ret) (hX : va_X b L xs s s.heap) (hbl : b < s.heap.size) (hG : G.1 = s.heap.size) {σ' : ns_St} {kh18 : ns_St → Nat → Nat → Int32 → Option (Unit × ns_St)} (hkh18 : ∀ (σ : ns_St) (a1 : Nat) (a2 : Nat) (x3 : Int32), ns_kd a1 = 8 → ns_kd a2 = 9 → kh18 σ a1 a2 x3 = some ((), σ') → VV G p l e room_1 s m #[Value.ref b] below meth c 4 82 14211 (lw_Z below #[Value.ref b] s) ns_N σ 18 [(0, .ref b), (1, .ref (G.1 + a1)), (2, .ref (G.1 + a2)), (3, .int x3)] []) (σ : ns_St) (a1 : Nat) (a2 : Nat) (x3 : Int32) (hk_a1 : ns_kd a1 = 8) (hk_a2 : ns_kd a2 = 9) (hf : g_law_1093 xs L kh18 σ a1 a2 x3 = some ((), σ')) : VV G p l e room_1 s m #[Value.ref b] below meth c 4 82 14211 (lw_Z below #[Value.ref b] s) ns_N σ 1093 [(0, .ref b), (1, .ref (G.1 + a1)), (2, .ref (G.1 + a2)), (3, .int x3)] [] := by
  unfold g_law_1093 at hf
  refine v_aload_n C 1 1 rfl 1094 rfl (by decide +kernel) ?_
  refine v_aload_n C 0 0 rfl 1095 rfl (by decide +kernel) ?_
  refine v_iload_n C 3 3 rfl 1096 rfl (by decide +kernel) ?_
  refine v_iconst C (1) (1) (by decide) 1097 rfl (by decide +kernel) ?_
  refine v_iadd C 1098 rfl (by decide +kernel) ?_
  obtain ⟨hi718, hf⟩ := grd_e hf
  refine v_sld C hX hbl hG hi718 1099 rfl (by decide +kernel) ?_
  refine v_aload_n C 0 0 rfl 1100 rfl (by decide +kernel) ?_
  refine v_iload_n C 3 3 rfl 1101 rfl (by decide +kernel) ?_
  refine v_iconst C (2) (2) (by decide) 1102 rfl (by decide +kernel) ?_
  refine v_iadd C 1103 rfl (by decide +kernel) ?_
  obtain ⟨hi719, hf⟩ := grd_e hf
  refine v_sld C hX hbl hG hi719 1104 rfl (by decide +kernel) ?_
  obtain ⟨r721, σ720, hcr721, hf⟩ := cl2_e hf
  refine v_cV C 8 rfl (ns_kd_lt hk_a1 (by decide)) hk_a1 (by decide) [.int (xs (ns_ix (x3 + (1 : Int32)))), .int (xs (ns_ix (x3 + (2 : Int32))))] [] (c_N_meets G l σ a1 (xs (ns_ix (x3 + (1 : Int32)))) (xs (ns_ix (x3 + (2 : Int32)))) hcr721) 127 2 tw_759 tw_756 tw_757 tw_758 tw_1 hd_N_meets rfl ⟨(Nat.le_of_ble_eq_true rfl), (Nat.le_of_ble_eq_true rfl)⟩ ⟨(Nat.le_of_ble_eq_true rfl), (Nat.le_of_ble_eq_true rfl)⟩ (Nat.le_of_ble_eq_true rfl) rfl 1107 rfl (by decide +kernel) [.int r721] rfl ?_
  refine v_aload_n C 2 2 rfl 1108 rfl (by decide +kernel) ?_
  refine v_aload_n C 0 0 rfl 1109 rfl (by decide +kernel) ?_
  refine v_iload_n C 3 3 rfl 1110 rfl (by decide +kernel) ?_
  refine v_iconst C (1) (1) (by decide) 1111 rfl (by decide +kernel) ?_
  refine v_iadd C 1112 rfl (by decide +kernel) ?_
  obtain ⟨hi722, hf⟩ := grd_e hf
  refine v_sld C hX hbl hG hi722 1113 rfl (by decide +kernel) ?_
  refine v_aload_n C 0 0 rfl 1114 rfl (by decide +kernel) ?_
  refine v_iload_n C 3 3 rfl 1115 rfl (by decide +kernel) ?_
  refine v_iconst C (2) (2) (by decide) 1116 rfl (by decide +kernel) ?_
  refine v_iadd C 1117 rfl (by decide +kernel) ?_
  obtain ⟨hi723, hf⟩ := grd_e hf
  refine v_sld C hX hbl hG hi723 1118 rfl (by decide +kernel) ?_
  obtain ⟨r725, σ724, hcr725, hf⟩ := cl2_e hf
  refine v_cV C 9 rfl (ns_kd_lt hk_a2 (by decide)) hk_a2 (by decide) [.int (xs (ns_ix (x3 + (1 : Int32)))), .int (xs (ns_ix (x3 + (2 : Int32))))] [.int r721] (c_M_meets G l σ720 a2 (xs (ns_ix (x3 + (1 : Int32)))) (xs (ns_ix (x3 + (2 : Int32)))) hcr725) 130 2 tw_1312 tw_1309 tw_1310 tw_1311 tw_10 hd_M_meets rfl ⟨(Nat.le_of_ble_eq_true rfl), (Nat.le_of_ble_eq_true rfl)⟩ ⟨(Nat.le_of_ble_eq_true rfl), (Nat.le_of_ble_eq_true rfl)⟩ (Nat.le_of_ble_eq_true rfl) rfl 1121 rfl (by decide +kernel) [.int r725, .int r721] rfl ?_
  refine v_icmp_eq C 1550 1124 rfl (by decide +kernel) (fun h726 => ?_) (fun h726 => ?_)
  · have hf := ite2_t hf h726
    obtain ⟨z727, hz727, hf⟩ := bnd_e hf
    refine v_iinc C 3 (6) 3 z727 rfl (by rw [hz727]; rfl) [(3, .int z727), (0, .ref b), (1, .ref (G.1 + a1)), (2, .ref (G.1 + a2))] (by decide) rfl 1553 rfl (by decide +kernel) ?_
    refine v_goto C 18 (by decide +kernel) ?_
    refine v_sub [1, 2, 3, 0] rfl ?_
    exact hkh18 σ724 a1 a2 z727 hk_a1 hk_a2 hf
  · have hf := ite2_f hf h726
    cases hf
theorem t_law_1126 (G : ns_G) (l : Launch) {p : Program} {e : Env} {s : State} {m : MethodId} {below : List Frame} {meth : Method} {c : Code} {b L : Nat} {xs : Nat → Int32} (C : ns_Cx G p s m #[Value.ref b] meth c code "NinthStepLaw" 4) (hr : meth.sig.returnType = ret) (hX : va_X b L xs s s.heap) (hbl : b < s.heap.size) (hG : G.1 = s.heap.size) {σ' : ns_St} {kh18 : ns_St → Nat → Nat → Int32 → Option (Unit × ns_St)} (hkh18 : ∀ (σ : ns_St) (a1 : Nat) (a2 : Nat) (x3 : Int32), ns_kd a1 = 8 → ns_kd a2 = 9 → kh18 σ a1 a2 x3 = some ((), σ') → VV G p l e room_1 s m #[Value.ref b] below meth c 4 82 14211 (lw_Z below #[Value.ref b] s) ns_N σ 18 [(0, .ref b), (1, .ref (G.1 + a1)), (2, .ref (G.1 + a2)), (3, .int x3)] []) (σ : ns_St) (a1 : Nat) (a2 : Nat) (x3 : Int32) (hk_a1 : ns_kd a1 = 8) (hk_a2 : ns_kd a2 = 9) (hf : g_law_1126 xs L kh18 σ a1 a2 x3 = some ((), σ')) : VV G p l e room_1 s m #[Value.ref b] below meth c 4 82 14211 (lw_Z below #[Value.ref b] s) ns_N σ 1126 [(0, .ref b), (1, .ref (G.1 + a1)), (2, .ref (G.1 + a2)), (3, .int x3)] [] := by
  unfold g_law_1126 at hf
  refine v_aload_n C 1 1 rfl 1127 rfl (by decide +kernel) ?_
  obtain ⟨r729, σ728, hcr729, hf⟩ := cl2_e hf
  refine v_cV C 8 rfl (ns_kd_lt hk_a1 (by decide)) hk_a1 (by decide) [] [] (c_N_last G l σ a1 hcr729) 131 0 tw_768 tw_765 tw_766 tw_767 tw_1 hd_N_last rfl ⟨(Nat.le_of_ble_eq_true rfl), (Nat.le_of_ble_eq_true rfl)⟩ ⟨(Nat.le_of_ble_eq_true rfl), (Nat.le_of_ble_eq_true rfl)⟩ (Nat.le_of_ble_eq_true rfl) rfl 1130 rfl (by decide +kernel) [.int r729] rfl ?_
  refine v_aload_n C 2 2 rfl 1131 rfl (by decide +kernel) ?_
  obtain ⟨r731, σ730, hcr731, hf⟩ := cl2_e hf
  refine v_cV C 9 rfl (ns_kd_lt hk_a2 (by decide)) hk_a2 (by decide) [] [.int r729] (c_M_last G l σ728 a2 hcr731) 134 0 tw_1316 tw_1313 tw_1314 tw_1315 tw_10 hd_M_last rfl ⟨(Nat.le_of_ble_eq_true rfl), (Nat.le_of_ble_eq_true rfl)⟩ ⟨(Nat.le_of_ble_eq_true rfl), (Nat.le_of_ble_eq_true rfl)⟩ (Nat.le_of_ble_eq_true rfl) rfl 1134 rfl (by decide +kernel) [.int r731, .int r729] rfl ?_
  refine v_icmp_eq C 1550 1137 rfl (by decide +kernel) (fun h732 => ?_) (fun h732 => ?_)
  · have hf := ite2_t hf h732
    obtain ⟨z733, hz733, hf⟩ := bnd_e hf
    refine v_iinc C 3 (6) 3 z733 rfl (by rw [hz733]; rfl) [(3, .int z733), (0, .ref b), (1, .ref (G.1 + a1)), (2, .ref (G.1 + a2))] (by decide) rfl 1553 rfl (by decide +kernel) ?_
    refine v_goto C 18 (by decide +kernel) ?_
    refine v_sub [1, 2, 3, 0] rfl ?_
    exact hkh18 σ730 a1 a2 z733 hk_a1 hk_a2 hf
  · have hf := ite2_f hf h732
    cases hf
theorem t_law_1139 (G : ns_G) (l : Launch) {p : Program} {e : Env} {s : State} {m : MethodId} {below : List Frame} {meth : Method} {c : Code} {b L : Nat} {xs : Nat → Int32} (C : ns_Cx G p s m #[Value.ref b] meth c code "NinthStepLaw" 4) (hr : meth.sig.returnType = ret) (hX : va_X b L xs s s.heap) (hbl : b < s.heap.size) (hG : G.1 = s.heap.size) {σ' : ns_St} {kh18 : ns_St → Nat → Nat → Int32 → Option (Unit × ns_St)} (hkh18 : ∀ (σ : ns_St) (a1 : Nat) (a2 : Nat) (x3 : Int32), ns_kd a1 = 8 → ns_kd a2 = 9 → kh18 σ a1 a2 x3 = some ((), σ') → VV G p l e room_1 s m #[Value.ref b] below meth c 4 82 14211 (lw_Z below #[Value.ref b] s) ns_N σ 18 [(0, .ref b), (1, .ref (G.1 + a1)), (2, .ref (G.1 + a2)), (3, .int x3)] []) (σ : ns_St) (a1 : Nat) (a2 : Nat) (x3 : Int32) (hk_a1 : ns_kd a1 = 8) (hk_a2 : ns_kd a2 = 9) (hf : g_law_1139 xs L kh18 σ a1 a2 x3 = some ((), σ')) : VV G p l e room_1 s m #[Value.ref b] below meth c 4 82 14211 (lw_Z below #[Value.ref b] s) ns_N σ 1139 [(0, .ref b), (1, .ref (G.1 + a1)), (2, .ref (G.1 + a2)), (3, .int x3)] [] := by
  unfold g_law_1139 at hf
  refine v_aload_n C 1 1 rfl 1140 rfl (by decide +kernel) ?_
  refine v_aload_n C 0 0 rfl 1141 rfl (by decide +kernel) ?_
  refine v_iload_n C 3 3 rfl 1142 rfl (by decide +kernel) ?_
  refine v_iconst C (1) (1) (by decide) 1143 rfl (by decide +kernel) ?_
  refine v_iadd C 1144 rfl (by decide +kernel) ?_
  obtain ⟨hi734, hf⟩ := grd_e hf
  refine v_sld C hX hbl hG hi734 1145 rfl (by decide +kernel) ?_
  refine v_aload_n C 0 0 rfl 1146 rfl (by decide +kernel) ?_
  refine v_iload_n C 3 3 rfl 1147 rfl (by decide +kernel) ?_
  refine v_iconst C (2) (2) (by decide) 1148 rfl (by decide +kernel) ?_
  refine v_iadd C 1149 rfl (by decide +kernel) ?_
  obtain ⟨hi735, hf⟩ := grd_e hf
  refine v_sld C hX hbl hG hi735 1150 rfl (by decide +kernel) ?_
  obtain ⟨r737, σ736, hcr737, hf⟩ := cl2_e hf
  refine v_cV C 8 rfl (ns_kd_lt hk_a1 (by decide)) hk_a1 (by decide) [.int (xs (ns_ix (x3 + (1 : Int32)))), .int (xs (ns_ix (x3 + (2 : Int32))))] [] (c_N_train G l σ a1 (xs (ns_ix (x3 + (1 : Int32)))) (xs (ns_ix (x3 + (2 : Int32)))) hcr737) 135 2 tw_772 tw_769 tw_770 tw_771 tw_1 hd_N_train rfl ⟨(Nat.le_of_ble_eq_true rfl), (Nat.le_of_ble_eq_true rfl)⟩ ⟨(Nat.le_of_ble_eq_true rfl), (Nat.le_of_ble_eq_true rfl)⟩ (Nat.le_of_ble_eq_true rfl) rfl 1153 rfl (by decide +kernel) [.int r737] rfl ?_
  refine v_aload_n C 2 2 rfl 1154 rfl (by decide +kernel) ?_
  refine v_aload_n C 0 0 rfl 1155 rfl (by decide +kernel) ?_
  refine v_iload_n C 3 3 rfl 1156 rfl (by decide +kernel) ?_
  refine v_iconst C (1) (1) (by decide) 1157 rfl (by decide +kernel) ?_
  refine v_iadd C 1158 rfl (by decide +kernel) ?_
  obtain ⟨hi738, hf⟩ := grd_e hf
  refine v_sld C hX hbl hG hi738 1159 rfl (by decide +kernel) ?_
  refine v_aload_n C 0 0 rfl 1160 rfl (by decide +kernel) ?_
  refine v_iload_n C 3 3 rfl 1161 rfl (by decide +kernel) ?_
  refine v_iconst C (2) (2) (by decide) 1162 rfl (by decide +kernel) ?_
  refine v_iadd C 1163 rfl (by decide +kernel) ?_
  obtain ⟨hi739, hf⟩ := grd_e hf
  refine v_sld C hX hbl hG hi739 1164 rfl (by decide +kernel) ?_
  obtain ⟨r741, σ740, hcr741, hf⟩ := cl2_e hf
  refine v_cV C 9 rfl (ns_kd_lt hk_a2 (by decide)) hk_a2 (by decide) [.int (xs (ns_ix (x3 + (1 : Int32)))), .int (xs (ns_ix (x3 + (2 : Int32))))] [.int r737] (c_M_train G l σ736 a2 (xs (ns_ix (x3 + (1 : Int32)))) (xs (ns_ix (x3 + (2 : Int32)))) hcr741) 138 2 tw_1320 tw_1317 tw_1318 tw_1319 tw_10 hd_M_train rfl ⟨(Nat.le_of_ble_eq_true rfl), (Nat.le_of_ble_eq_true rfl)⟩ ⟨(Nat.le_of_ble_eq_true rfl), (Nat.le_of_ble_eq_true rfl)⟩ (Nat.le_of_ble_eq_true rfl) rfl 1167 rfl (by decide +kernel) [.int r741, .int r737] rfl ?_
  refine v_icmp_eq C 1550 1170 rfl (by decide +kernel) (fun h742 => ?_) (fun h742 => ?_)
  · have hf := ite2_t hf h742
    obtain ⟨z743, hz743, hf⟩ := bnd_e hf
    refine v_iinc C 3 (6) 3 z743 rfl (by rw [hz743]; rfl) [(3, .int z743), (0, .ref b), (1, .ref (G.1 + a1)), (2, .ref (G.1 + a2))] (by decide) rfl 1553 rfl (by decide +kernel) ?_
    refine v_goto C 18 (by decide +kernel) ?_
    refine v_sub [1, 2, 3, 0] rfl ?_
    exact hkh18 σ740 a1 a2 z743 hk_a1 hk_a2 hf
  · have hf := ite2_f hf h742
    cases hf
theorem t_law_1172 (G : ns_G) (l : Launch) {p : Program} {e : Env} {s : State} {m : MethodId} {below : List Frame} {meth : Method} {c : Code} {b L : Nat} {xs : Nat → Int32} (C : ns_Cx G p s m #[Value.ref b] meth c code "NinthStepLaw" 4) (hr : meth.sig.returnType = ret) (hX : va_X b L xs s s.heap) (hbl : b < s.heap.size) (hG : G.1 = s.heap.size) {σ' : ns_St} {kh18 : ns_St → Nat → Nat → Int32 → Option (Unit × ns_St)} (hkh18 : ∀ (σ : ns_St) (a1 : Nat) (a2 : Nat) (x3 : Int32), ns_kd a1 = 8 → ns_kd a2 = 9 → kh18 σ a1 a2 x3 = some ((), σ') → VV G p l e room_1 s m #[Value.ref b] below meth c 4 82 14211 (lw_Z below #[Value.ref b] s) ns_N σ 18 [(0, .ref b), (1, .ref (G.1 + a1)), (2, .ref (G.1 + a2)), (3, .int x3)] []) (σ : ns_St) (a1 : Nat) (a2 : Nat) (x3 : Int32) (hk_a1 : ns_kd a1 = 8) (hk_a2 : ns_kd a2 = 9) (hf : g_law_1172 xs L kh18 σ a1 a2 x3 = some ((), σ')) : VV G p l e room_1 s m #[Value.ref b] below meth c 4 82 14211 (lw_Z below #[Value.ref b] s) ns_N σ 1172 [(0, .ref b), (1, .ref (G.1 + a1)), (2, .ref (G.1 + a2)), (3, .int x3)] [] := by
  unfold g_law_1172 at hf
  refine v_aload_n C 1 1 rfl 1173 rfl (by decide +kernel) ?_
  refine v_aload_n C 0 0 rfl 1174 rfl (by decide +kernel) ?_
  refine v_iload_n C 3 3 rfl 1175 rfl (by decide +kernel) ?_
  refine v_iconst C (1) (1) (by decide) 1176 rfl (by decide +kernel) ?_
  refine v_iadd C 1177 rfl (by decide +kernel) ?_
  obtain ⟨hi744, hf⟩ := grd_e hf
  refine v_sld C hX hbl hG hi744 1178 rfl (by decide +kernel) ?_
  obtain ⟨r746, σ745, hcr746, hf⟩ := cl2_e hf
  refine v_cV C 8 rfl (ns_kd_lt hk_a1 (by decide)) hk_a1 (by decide) [.int (xs (ns_ix (x3 + (1 : Int32))))] [] (c_N_crowd G l σ a1 (xs (ns_ix (x3 + (1 : Int32)))) hcr746) 139 1 tw_784 tw_781 tw_782 tw_783 tw_1 hd_N_crowd rfl ⟨(Nat.le_of_ble_eq_true rfl), (Nat.le_of_ble_eq_true rfl)⟩ ⟨(Nat.le_of_ble_eq_true rfl), (Nat.le_of_ble_eq_true rfl)⟩ (Nat.le_of_ble_eq_true rfl) rfl 1181 rfl (by decide +kernel) [.int r746] rfl ?_
  refine v_aload_n C 2 2 rfl 1182 rfl (by decide +kernel) ?_
  refine v_aload_n C 0 0 rfl 1183 rfl (by decide +kernel) ?_
  refine v_iload_n C 3 3 rfl 1184 rfl (by decide +kernel) ?_
  refine v_iconst C (1) (1) (by decide) 1185 rfl (by decide +kernel) ?_
  refine v_iadd C 1186 rfl (by decide +kernel) ?_
  obtain ⟨hi747, hf⟩ := grd_e hf
  refine v_sld C hX hbl hG hi747 1187 rfl (by decide +kernel) ?_
  obtain ⟨r749, σ748, hcr749, hf⟩ := cl2_e hf
  refine v_cV C 9 rfl (ns_kd_lt hk_a2 (by decide)) hk_a2 (by decide) [.int (xs (ns_ix (x3 + (1 : Int32))))] [.int r746] (c_M_crowd G l σ745 a2 (xs (ns_ix (x3 + (1 : Int32)))) hcr749) 142 1 tw_1324 tw_1321 tw_1322 tw_1323 tw_10 hd_M_crowd rfl ⟨(Nat.le_of_ble_eq_true rfl), (Nat.le_of_ble_eq_true rfl)⟩ ⟨(Nat.le_of_ble_eq_true rfl), (Nat.le_of_ble_eq_true rfl)⟩ (Nat.le_of_ble_eq_true rfl) rfl 1190 rfl (by decide +kernel) [.int r749, .int r746] rfl ?_
  refine v_icmp_eq C 1550 1193 rfl (by decide +kernel) (fun h750 => ?_) (fun h750 => ?_)
  · have hf := ite2_t hf h750
    obtain ⟨z751, hz751, hf⟩ := bnd_e hf
    refine v_iinc C 3 (6) 3 z751 rfl (by rw [hz751]; rfl) [(3, .int z751), (0, .ref b), (1, .ref (G.1 + a1)), (2, .ref (G.1 + a2))] (by decide) rfl 1553 rfl (by decide +kernel) ?_
    refine v_goto C 18 (by decide +kernel) ?_
    refine v_sub [1, 2, 3, 0] rfl ?_
    exact hkh18 σ748 a1 a2 z751 hk_a1 hk_a2 hf
  · have hf := ite2_f hf h750
    cases hf
theorem t_law_1195 (G : ns_G) (l : Launch) {p : Program} {e : Env} {s : State} {m : MethodId} {below : List Frame} {meth : Method} {c : Code} {b L : Nat} {xs : Nat → Int32} (C : ns_Cx G p s m #[Value.ref b] meth c code "NinthStepLaw" 4) (hr : meth.sig.returnType = ret) (hX : va_X b L xs s s.heap) (hbl : b < s.heap.size) (hG : G.1 = s.heap.size) {σ' : ns_St} {kh18 : ns_St → Nat → Nat → Int32 → Option (Unit × ns_St)} (hkh18 : ∀ (σ : ns_St) (a1 : Nat) (a2 : Nat) (x3 : Int32), ns_kd a1 = 8 → ns_kd a2 = 9 → kh18 σ a1 a2 x3 = some ((), σ') → VV G p l e room_1 s m #[Value.ref b] below meth c 4 82 14211 (lw_Z below #[Value.ref b] s) ns_N σ 18 [(0, .ref b), (1, .ref (G.1 + a1)), (2, .ref (G.1 + a2)), (3, .int x3)] []) (σ : ns_St) (a1 : Nat) (a2 : Nat) (x3 : Int32) (hk_a1 : ns_kd a1 = 8) (hk_a2 : ns_kd a2 = 9) (hf : g_law_1195 xs L kh18 σ a1 a2 x3 = some ((), σ')) : VV G p l e room_1 s m #[Value.ref b] below meth c 4 82 14211 (lw_Z below #[Value.ref b] s) ns_N σ 1195 [(0, .ref b), (1, .ref (G.1 + a1)), (2, .ref (G.1 + a2)), (3, .int x3)] [] := by
  unfold g_law_1195 at hf
  refine v_aload_n C 1 1 rfl 1196 rfl (by decide +kernel) ?_
  refine v_aload_n C 0 0 rfl 1197 rfl (by decide +kernel) ?_
  refine v_iload_n C 3 3 rfl 1198 rfl (by decide +kernel) ?_
  refine v_iconst C (1) (1) (by decide) 1199 rfl (by decide +kernel) ?_
  refine v_iadd C 1200 rfl (by decide +kernel) ?_
  obtain ⟨hi752, hf⟩ := grd_e hf
  refine v_sld C hX hbl hG hi752 1201 rfl (by decide +kernel) ?_
  obtain ⟨r754, σ753, hcr754, hf⟩ := cl2_e hf
  refine v_cV C 8 rfl (ns_kd_lt hk_a1 (by decide)) hk_a1 (by decide) [.int (xs (ns_ix (x3 + (1 : Int32))))] [] (c_N_best G l σ a1 (xs (ns_ix (x3 + (1 : Int32)))) hcr754) 143 1 tw_792 tw_789 tw_790 tw_791 tw_1 hd_N_best rfl ⟨(Nat.le_of_ble_eq_true rfl), (Nat.le_of_ble_eq_true rfl)⟩ ⟨(Nat.le_of_ble_eq_true rfl), (Nat.le_of_ble_eq_true rfl)⟩ (Nat.le_of_ble_eq_true rfl) rfl 1204 rfl (by decide +kernel) [.int r754] rfl ?_
  refine v_aload_n C 2 2 rfl 1205 rfl (by decide +kernel) ?_
  refine v_aload_n C 0 0 rfl 1206 rfl (by decide +kernel) ?_
  refine v_iload_n C 3 3 rfl 1207 rfl (by decide +kernel) ?_
  refine v_iconst C (1) (1) (by decide) 1208 rfl (by decide +kernel) ?_
  refine v_iadd C 1209 rfl (by decide +kernel) ?_
  obtain ⟨hi755, hf⟩ := grd_e hf
  refine v_sld C hX hbl hG hi755 1210 rfl (by decide +kernel) ?_
  obtain ⟨r757, σ756, hcr757, hf⟩ := cl2_e hf
  refine v_cV C 9 rfl (ns_kd_lt hk_a2 (by decide)) hk_a2 (by decide) [.int (xs (ns_ix (x3 + (1 : Int32))))] [.int r754] (c_M_best G l σ753 a2 (xs (ns_ix (x3 + (1 : Int32)))) hcr757) 146 1 tw_1332 tw_1329 tw_1330 tw_1331 tw_10 hd_M_best rfl ⟨(Nat.le_of_ble_eq_true rfl), (Nat.le_of_ble_eq_true rfl)⟩ ⟨(Nat.le_of_ble_eq_true rfl), (Nat.le_of_ble_eq_true rfl)⟩ (Nat.le_of_ble_eq_true rfl) rfl 1213 rfl (by decide +kernel) [.int r757, .int r754] rfl ?_
  refine v_icmp_eq C 1550 1216 rfl (by decide +kernel) (fun h758 => ?_) (fun h758 => ?_)
  · have hf := ite2_t hf h758
    obtain ⟨z759, hz759, hf⟩ := bnd_e hf
    refine v_iinc C 3 (6) 3 z759 rfl (by rw [hz759]; rfl) [(3, .int z759), (0, .ref b), (1, .ref (G.1 + a1)), (2, .ref (G.1 + a2))] (by decide) rfl 1553 rfl (by decide +kernel) ?_
    refine v_goto C 18 (by decide +kernel) ?_
    refine v_sub [1, 2, 3, 0] rfl ?_
    exact hkh18 σ756 a1 a2 z759 hk_a1 hk_a2 hf
  · have hf := ite2_f hf h758
    cases hf
theorem t_law_1218 (G : ns_G) (l : Launch) {p : Program} {e : Env} {s : State} {m : MethodId} {below : List Frame} {meth : Method} {c : Code} {b L : Nat} {xs : Nat → Int32} (C : ns_Cx G p s m #[Value.ref b] meth c code "NinthStepLaw" 4) (hr : meth.sig.returnType = ret) (hX : va_X b L xs s s.heap) (hbl : b < s.heap.size) (hG : G.1 = s.heap.size) {σ' : ns_St} {kh18 : ns_St → Nat → Nat → Int32 → Option (Unit × ns_St)} (hkh18 : ∀ (σ : ns_St) (a1 : Nat) (a2 : Nat) (x3 : Int32), ns_kd a1 = 8 → ns_kd a2 = 9 → kh18 σ a1 a2 x3 = some ((), σ') → VV G p l e room_1 s m #[Value.ref b] below meth c 4 82 14211 (lw_Z below #[Value.ref b] s) ns_N σ 18 [(0, .ref b), (1, .ref (G.1 + a1)), (2, .ref (G.1 + a2)), (3, .int x3)] []) (σ : ns_St) (a1 : Nat) (a2 : Nat) (x3 : Int32) (hk_a1 : ns_kd a1 = 8) (hk_a2 : ns_kd a2 = 9) (hf : g_law_1218 xs L kh18 σ a1 a2 x3 = some ((), σ')) : VV G p l e room_1 s m #[Value.ref b] below meth c 4 82 14211 (lw_Z below #[Value.ref b] s) ns_N σ 1218 [(0, .ref b), (1, .ref (G.1 + a1)), (2, .ref (G.1 + a2)), (3, .int x3)] [] := by
  unfold g_law_1218 at hf
  refine v_aload_n C 1 1 rfl 1219 rfl (by decide +kernel) ?_
  refine v_aload_n C 0 0 rfl 1220 rfl (by decide +kernel) ?_
  refine v_iload_n C 3 3 rfl 1221 rfl (by decide +kernel) ?_
  refine v_iconst C (1) (1) (by decide) 1222 rfl (by decide +kernel) ?_
  refine v_iadd C 1223 rfl (by decide +kernel) ?_
  obtain ⟨hi760, hf⟩ := grd_e hf
  refine v_sld C hX hbl hG hi760 1224 rfl (by decide +kernel) ?_
  obtain ⟨r762, σ761, hcr762, hf⟩ := cl2_e hf
  refine v_cV C 8 rfl (ns_kd_lt hk_a1 (by decide)) hk_a1 (by decide) [.int (xs (ns_ix (x3 + (1 : Int32))))] [] (c_N_stones G l σ a1 (xs (ns_ix (x3 + (1 : Int32)))) hcr762) 147 1 tw_800 tw_797 tw_798 tw_799 tw_1 hd_N_stones rfl ⟨(Nat.le_of_ble_eq_true rfl), (Nat.le_of_ble_eq_true rfl)⟩ ⟨(Nat.le_of_ble_eq_true rfl), (Nat.le_of_ble_eq_true rfl)⟩ (Nat.le_of_ble_eq_true rfl) rfl 1227 rfl (by decide +kernel) [.int r762] rfl ?_
  refine v_aload_n C 2 2 rfl 1228 rfl (by decide +kernel) ?_
  refine v_aload_n C 0 0 rfl 1229 rfl (by decide +kernel) ?_
  refine v_iload_n C 3 3 rfl 1230 rfl (by decide +kernel) ?_
  refine v_iconst C (1) (1) (by decide) 1231 rfl (by decide +kernel) ?_
  refine v_iadd C 1232 rfl (by decide +kernel) ?_
  obtain ⟨hi763, hf⟩ := grd_e hf
  refine v_sld C hX hbl hG hi763 1233 rfl (by decide +kernel) ?_
  obtain ⟨r765, σ764, hcr765, hf⟩ := cl2_e hf
  refine v_cV C 9 rfl (ns_kd_lt hk_a2 (by decide)) hk_a2 (by decide) [.int (xs (ns_ix (x3 + (1 : Int32))))] [.int r762] (c_M_stones G l σ761 a2 (xs (ns_ix (x3 + (1 : Int32)))) hcr765) 150 1 tw_1336 tw_1333 tw_1334 tw_1335 tw_10 hd_M_stones rfl ⟨(Nat.le_of_ble_eq_true rfl), (Nat.le_of_ble_eq_true rfl)⟩ ⟨(Nat.le_of_ble_eq_true rfl), (Nat.le_of_ble_eq_true rfl)⟩ (Nat.le_of_ble_eq_true rfl) rfl 1236 rfl (by decide +kernel) [.int r765, .int r762] rfl ?_
  refine v_icmp_eq C 1550 1239 rfl (by decide +kernel) (fun h766 => ?_) (fun h766 => ?_)
  · have hf := ite2_t hf h766
    obtain ⟨z767, hz767, hf⟩ := bnd_e hf
    refine v_iinc C 3 (6) 3 z767 rfl (by rw [hz767]; rfl) [(3, .int z767), (0, .ref b), (1, .ref (G.1 + a1)), (2, .ref (G.1 + a2))] (by decide) rfl 1553 rfl (by decide +kernel) ?_
    refine v_goto C 18 (by decide +kernel) ?_
    refine v_sub [1, 2, 3, 0] rfl ?_
    exact hkh18 σ764 a1 a2 z767 hk_a1 hk_a2 hf
  · have hf := ite2_f hf h766
    cases hf
theorem t_law_1241 (G : ns_G) (l : Launch) {p : Program} {e : Env} {s : State} {m : MethodId} {below : List Frame} {meth : Method} {c : Code} {b L : Nat} {xs : Nat → Int32} (C : ns_Cx G p s m #[Value.ref b] meth c code "NinthStepLaw" 4) (hr : meth.sig.returnType = ret) (hX : va_X b L xs s s.heap) (hbl : b < s.heap.size) (hG : G.1 = s.heap.size) {σ' : ns_St} {kh18 : ns_St → Nat → Nat → Int32 → Option (Unit × ns_St)} (hkh18 : ∀ (σ : ns_St) (a1 : Nat) (a2 : Nat) (x3 : Int32), ns_kd a1 = 8 → ns_kd a2 = 9 → kh18 σ a1 a2 x3 = some ((), σ') → VV G p l e room_1 s m #[Value.ref b] below meth c 4 82 14211 (lw_Z below #[Value.ref b] s) ns_N σ 18 [(0, .ref b), (1, .ref (G.1 + a1)), (2, .ref (G.1 + a2)), (3, .int x3)] []) (σ : ns_St) (a1 : Nat) (a2 : Nat) (x3 : Int32) (hk_a1 : ns_kd a1 = 8) (hk_a2 : ns_kd a2 = 9) (hf : g_law_1241 xs L kh18 σ a1 a2 x3 = some ((), σ')) : VV G p l e room_1 s m #[Value.ref b] below meth c 4 82 14211 (lw_Z below #[Value.ref b] s) ns_N σ 1241 [(0, .ref b), (1, .ref (G.1 + a1)), (2, .ref (G.1 + a2)), (3, .int x3)] [] := by
  unfold g_law_1241 at hf
  refine v_aload_n C 1 1 rfl 1242 rfl (by decide +kernel) ?_
  refine v_aload_n C 0 0 rfl 1243 rfl (by decide +kernel) ?_
  refine v_iload_n C 3 3 rfl 1244 rfl (by decide +kernel) ?_
  refine v_iconst C (1) (1) (by decide) 1245 rfl (by decide +kernel) ?_
  refine v_iadd C 1246 rfl (by decide +kernel) ?_
  obtain ⟨hi768, hf⟩ := grd_e hf
  refine v_sld C hX hbl hG hi768 1247 rfl (by decide +kernel) ?_
  refine v_aload_n C 0 0 rfl 1248 rfl (by decide +kernel) ?_
  refine v_iload_n C 3 3 rfl 1249 rfl (by decide +kernel) ?_
  refine v_iconst C (2) (2) (by decide) 1250 rfl (by decide +kernel) ?_
  refine v_iadd C 1251 rfl (by decide +kernel) ?_
  obtain ⟨hi769, hf⟩ := grd_e hf
  refine v_sld C hX hbl hG hi769 1252 rfl (by decide +kernel) ?_
  refine v_aload_n C 0 0 rfl 1253 rfl (by decide +kernel) ?_
  refine v_iload_n C 3 3 rfl 1254 rfl (by decide +kernel) ?_
  refine v_iconst C (3) (3) (by decide) 1255 rfl (by decide +kernel) ?_
  refine v_iadd C 1256 rfl (by decide +kernel) ?_
  obtain ⟨hi770, hf⟩ := grd_e hf
  refine v_sld C hX hbl hG hi770 1257 rfl (by decide +kernel) ?_
  obtain ⟨r772, σ771, hcr772, hf⟩ := cl2_e hf
  refine v_cV C 8 rfl (ns_kd_lt hk_a1 (by decide)) hk_a1 (by decide) [.int (xs (ns_ix (x3 + (1 : Int32)))), .int (xs (ns_ix (x3 + (2 : Int32)))), .int (xs (ns_ix (x3 + (3 : Int32))))] [] (c_N_numbers G l σ a1 (xs (ns_ix (x3 + (1 : Int32)))) (xs (ns_ix (x3 + (2 : Int32)))) (xs (ns_ix (x3 + (3 : Int32)))) hcr772) 151 3 tw_860 tw_857 tw_858 tw_859 tw_1 hd_N_numbers rfl ⟨(Nat.le_of_ble_eq_true rfl), (Nat.le_of_ble_eq_true rfl)⟩ ⟨(Nat.le_of_ble_eq_true rfl), (Nat.le_of_ble_eq_true rfl)⟩ (Nat.le_of_ble_eq_true rfl) rfl 1260 rfl (by decide +kernel) [.int r772] rfl ?_
  refine v_aload_n C 2 2 rfl 1261 rfl (by decide +kernel) ?_
  refine v_aload_n C 0 0 rfl 1262 rfl (by decide +kernel) ?_
  refine v_iload_n C 3 3 rfl 1263 rfl (by decide +kernel) ?_
  refine v_iconst C (1) (1) (by decide) 1264 rfl (by decide +kernel) ?_
  refine v_iadd C 1265 rfl (by decide +kernel) ?_
  obtain ⟨hi773, hf⟩ := grd_e hf
  refine v_sld C hX hbl hG hi773 1266 rfl (by decide +kernel) ?_
  refine v_aload_n C 0 0 rfl 1267 rfl (by decide +kernel) ?_
  refine v_iload_n C 3 3 rfl 1268 rfl (by decide +kernel) ?_
  refine v_iconst C (2) (2) (by decide) 1269 rfl (by decide +kernel) ?_
  refine v_iadd C 1270 rfl (by decide +kernel) ?_
  obtain ⟨hi774, hf⟩ := grd_e hf
  refine v_sld C hX hbl hG hi774 1271 rfl (by decide +kernel) ?_
  refine v_aload_n C 0 0 rfl 1272 rfl (by decide +kernel) ?_
  refine v_iload_n C 3 3 rfl 1273 rfl (by decide +kernel) ?_
  refine v_iconst C (3) (3) (by decide) 1274 rfl (by decide +kernel) ?_
  refine v_iadd C 1275 rfl (by decide +kernel) ?_
  obtain ⟨hi775, hf⟩ := grd_e hf
  refine v_sld C hX hbl hG hi775 1276 rfl (by decide +kernel) ?_
  obtain ⟨r777, σ776, hcr777, hf⟩ := cl2_e hf
  refine v_cV C 9 rfl (ns_kd_lt hk_a2 (by decide)) hk_a2 (by decide) [.int (xs (ns_ix (x3 + (1 : Int32)))), .int (xs (ns_ix (x3 + (2 : Int32)))), .int (xs (ns_ix (x3 + (3 : Int32))))] [.int r772] (c_M_numbers G l σ771 a2 (xs (ns_ix (x3 + (1 : Int32)))) (xs (ns_ix (x3 + (2 : Int32)))) (xs (ns_ix (x3 + (3 : Int32)))) hcr777) 154 3 tw_1348 tw_1345 tw_1346 tw_1347 tw_10 hd_M_numbers rfl ⟨(Nat.le_of_ble_eq_true rfl), (Nat.le_of_ble_eq_true rfl)⟩ ⟨(Nat.le_of_ble_eq_true rfl), (Nat.le_of_ble_eq_true rfl)⟩ (Nat.le_of_ble_eq_true rfl) rfl 1279 rfl (by decide +kernel) [.int r777, .int r772] rfl ?_
  refine v_icmp_eq C 1550 1282 rfl (by decide +kernel) (fun h778 => ?_) (fun h778 => ?_)
  · have hf := ite2_t hf h778
    obtain ⟨z779, hz779, hf⟩ := bnd_e hf
    refine v_iinc C 3 (6) 3 z779 rfl (by rw [hz779]; rfl) [(3, .int z779), (0, .ref b), (1, .ref (G.1 + a1)), (2, .ref (G.1 + a2))] (by decide) rfl 1553 rfl (by decide +kernel) ?_
    refine v_goto C 18 (by decide +kernel) ?_
    refine v_sub [1, 2, 3, 0] rfl ?_
    exact hkh18 σ776 a1 a2 z779 hk_a1 hk_a2 hf
  · have hf := ite2_f hf h778
    cases hf
theorem t_law_1284 (G : ns_G) (l : Launch) {p : Program} {e : Env} {s : State} {m : MethodId} {below : List Frame} {meth : Method} {c : Code} {b L : Nat} {xs : Nat → Int32} (C : ns_Cx G p s m #[Value.ref b] meth c code "NinthStepLaw" 4) (hr : meth.sig.returnType = ret) (hX : va_X b L xs s s.heap) (hbl : b < s.heap.size) (hG : G.1 = s.heap.size) {σ' : ns_St} {kh18 : ns_St → Nat → Nat → Int32 → Option (Unit × ns_St)} (hkh18 : ∀ (σ : ns_St) (a1 : Nat) (a2 : Nat) (x3 : Int32), ns_kd a1 = 8 → ns_kd a2 = 9 → kh18 σ a1 a2 x3 = some ((), σ') → VV G p l e room_1 s m #[Value.ref b] below meth c 4 82 14211 (lw_Z below #[Value.ref b] s) ns_N σ 18 [(0, .ref b), (1, .ref (G.1 + a1)), (2, .ref (G.1 + a2)), (3, .int x3)] []) (σ : ns_St) (a1 : Nat) (a2 : Nat) (x3 : Int32) (hk_a1 : ns_kd a1 = 8) (hk_a2 : ns_kd a2 = 9) (hf : g_law_1284 xs L kh18 σ a1 a2 x3 = some ((), σ')) : VV G p l e room_1 s m #[Value.ref b] below meth c 4 82 14211 (lw_Z below #[Value.ref b] s) ns_N σ 1284 [(0, .ref b), (1, .ref (G.1 + a1)), (2, .ref (G.1 + a2)), (3, .int x3)] [] := by
  unfold g_law_1284 at hf
  refine v_aload_n C 1 1 rfl 1285 rfl (by decide +kernel) ?_
  refine v_aload_n C 0 0 rfl 1286 rfl (by decide +kernel) ?_
  refine v_iload_n C 3 3 rfl 1287 rfl (by decide +kernel) ?_
  refine v_iconst C (1) (1) (by decide) 1288 rfl (by decide +kernel) ?_
  refine v_iadd C 1289 rfl (by decide +kernel) ?_
  obtain ⟨hi780, hf⟩ := grd_e hf
  refine v_sld C hX hbl hG hi780 1290 rfl (by decide +kernel) ?_
  refine v_aload_n C 0 0 rfl 1291 rfl (by decide +kernel) ?_
  refine v_iload_n C 3 3 rfl 1292 rfl (by decide +kernel) ?_
  refine v_iconst C (2) (2) (by decide) 1293 rfl (by decide +kernel) ?_
  refine v_iadd C 1294 rfl (by decide +kernel) ?_
  obtain ⟨hi781, hf⟩ := grd_e hf
  refine v_sld C hX hbl hG hi781 1295 rfl (by decide +kernel) ?_
  obtain ⟨r783, σ782, hcr783, hf⟩ := cl2_e hf
  refine v_cV C 8 rfl (ns_kd_lt hk_a1 (by decide)) hk_a1 (by decide) [.int (xs (ns_ix (x3 + (1 : Int32)))), .int (xs (ns_ix (x3 + (2 : Int32))))] [] (c_N_sure G l σ a1 (xs (ns_ix (x3 + (1 : Int32)))) (xs (ns_ix (x3 + (2 : Int32)))) hcr783) 155 2 tw_877 tw_874 tw_875 tw_876 tw_1 hd_N_sure rfl ⟨(Nat.le_of_ble_eq_true rfl), (Nat.le_of_ble_eq_true rfl)⟩ ⟨(Nat.le_of_ble_eq_true rfl), (Nat.le_of_ble_eq_true rfl)⟩ (Nat.le_of_ble_eq_true rfl) rfl 1298 rfl (by decide +kernel) [.int r783] rfl ?_
  refine v_aload_n C 2 2 rfl 1299 rfl (by decide +kernel) ?_
  refine v_aload_n C 0 0 rfl 1300 rfl (by decide +kernel) ?_
  refine v_iload_n C 3 3 rfl 1301 rfl (by decide +kernel) ?_
  refine v_iconst C (1) (1) (by decide) 1302 rfl (by decide +kernel) ?_
  refine v_iadd C 1303 rfl (by decide +kernel) ?_
  obtain ⟨hi784, hf⟩ := grd_e hf
  refine v_sld C hX hbl hG hi784 1304 rfl (by decide +kernel) ?_
  refine v_aload_n C 0 0 rfl 1305 rfl (by decide +kernel) ?_
  refine v_iload_n C 3 3 rfl 1306 rfl (by decide +kernel) ?_
  refine v_iconst C (2) (2) (by decide) 1307 rfl (by decide +kernel) ?_
  refine v_iadd C 1308 rfl (by decide +kernel) ?_
  obtain ⟨hi785, hf⟩ := grd_e hf
  refine v_sld C hX hbl hG hi785 1309 rfl (by decide +kernel) ?_
  obtain ⟨r787, σ786, hcr787, hf⟩ := cl2_e hf
  refine v_cV C 9 rfl (ns_kd_lt hk_a2 (by decide)) hk_a2 (by decide) [.int (xs (ns_ix (x3 + (1 : Int32)))), .int (xs (ns_ix (x3 + (2 : Int32))))] [.int r783] (c_M_sure G l σ782 a2 (xs (ns_ix (x3 + (1 : Int32)))) (xs (ns_ix (x3 + (2 : Int32)))) hcr787) 158 2 tw_1352 tw_1349 tw_1350 tw_1351 tw_10 hd_M_sure rfl ⟨(Nat.le_of_ble_eq_true rfl), (Nat.le_of_ble_eq_true rfl)⟩ ⟨(Nat.le_of_ble_eq_true rfl), (Nat.le_of_ble_eq_true rfl)⟩ (Nat.le_of_ble_eq_true rfl) rfl 1312 rfl (by decide +kernel) [.int r787, .int r783] rfl ?_
  refine v_icmp_eq C 1550 1315 rfl (by decide +kernel) (fun h788 => ?_) (fun h788 => ?_)
  · have hf := ite2_t hf h788
    obtain ⟨z789, hz789, hf⟩ := bnd_e hf
    refine v_iinc C 3 (6) 3 z789 rfl (by rw [hz789]; rfl) [(3, .int z789), (0, .ref b), (1, .ref (G.1 + a1)), (2, .ref (G.1 + a2))] (by decide) rfl 1553 rfl (by decide +kernel) ?_
    refine v_goto C 18 (by decide +kernel) ?_
    refine v_sub [1, 2, 3, 0] rfl ?_
    exact hkh18 σ786 a1 a2 z789 hk_a1 hk_a2 hf
  · have hf := ite2_f hf h788
    cases hf
theorem t_law_1317 (G : ns_G) (l : Launch) {p : Program} {e : Env} {s : State} {m : MethodId} {below : List Frame} {meth : Method} {c : Code} {b L : Nat} {xs : Nat → Int32} (C : ns_Cx G p s m #[Value.ref b] meth c code "NinthStepLaw" 4) (hr : meth.sig.returnType = ret) (hX : va_X b L xs s s.heap) (hbl : b < s.heap.size) (hG : G.1 = s.heap.size) {σ' : ns_St} {kh18 : ns_St → Nat → Nat → Int32 → Option (Unit × ns_St)} (hkh18 : ∀ (σ : ns_St) (a1 : Nat) (a2 : Nat) (x3 : Int32), ns_kd a1 = 8 → ns_kd a2 = 9 → kh18 σ a1 a2 x3 = some ((), σ') → VV G p l e room_1 s m #[Value.ref b] below meth c 4 82 14211 (lw_Z below #[Value.ref b] s) ns_N σ 18 [(0, .ref b), (1, .ref (G.1 + a1)), (2, .ref (G.1 + a2)), (3, .int x3)] []) (σ : ns_St) (a1 : Nat) (a2 : Nat) (x3 : Int32) (hk_a1 : ns_kd a1 = 8) (hk_a2 : ns_kd a2 = 9) (hf : g_law_1317 xs L kh18 σ a1 a2 x3 = some ((), σ')) : VV G p l e room_1 s m #[Value.ref b] below meth c 4 82 14211 (lw_Z below #[Value.ref b] s) ns_N σ 1317 [(0, .ref b), (1, .ref (G.1 + a1)), (2, .ref (G.1 + a2)), (3, .int x3)] [] := by
  unfold g_law_1317 at hf
  refine v_aload_n C 1 1 rfl 1318 rfl (by decide +kernel) ?_
  refine v_aload_n C 0 0 rfl 1319 rfl (by decide +kernel) ?_
  refine v_iload_n C 3 3 rfl 1320 rfl (by decide +kernel) ?_
  refine v_iconst C (1) (1) (by decide) 1321 rfl (by decide +kernel) ?_
  refine v_iadd C 1322 rfl (by decide +kernel) ?_
  obtain ⟨hi790, hf⟩ := grd_e hf
  refine v_sld C hX hbl hG hi790 1323 rfl (by decide +kernel) ?_
  refine v_aload_n C 0 0 rfl 1324 rfl (by decide +kernel) ?_
  refine v_iload_n C 3 3 rfl 1325 rfl (by decide +kernel) ?_
  refine v_iconst C (2) (2) (by decide) 1326 rfl (by decide +kernel) ?_
  refine v_iadd C 1327 rfl (by decide +kernel) ?_
  obtain ⟨hi791, hf⟩ := grd_e hf
  refine v_sld C hX hbl hG hi791 1328 rfl (by decide +kernel) ?_
  refine v_aload_n C 0 0 rfl 1329 rfl (by decide +kernel) ?_
  refine v_iload_n C 3 3 rfl 1330 rfl (by decide +kernel) ?_
  refine v_iconst C (3) (3) (by decide) 1331 rfl (by decide +kernel) ?_
  refine v_iadd C 1332 rfl (by decide +kernel) ?_
  obtain ⟨hi792, hf⟩ := grd_e hf
  refine v_sld C hX hbl hG hi792 1333 rfl (by decide +kernel) ?_
  obtain ⟨r794, σ793, hcr794, hf⟩ := cl2_e hf
  refine v_cV C 8 rfl (ns_kd_lt hk_a1 (by decide)) hk_a1 (by decide) [.int (xs (ns_ix (x3 + (1 : Int32)))), .int (xs (ns_ix (x3 + (2 : Int32)))), .int (xs (ns_ix (x3 + (3 : Int32))))] [] (c_N_judge G l σ a1 (xs (ns_ix (x3 + (1 : Int32)))) (xs (ns_ix (x3 + (2 : Int32)))) (xs (ns_ix (x3 + (3 : Int32)))) hcr794) 159 3 tw_896 tw_893 tw_894 tw_895 tw_1 hd_N_judge rfl ⟨(Nat.le_of_ble_eq_true rfl), (Nat.le_of_ble_eq_true rfl)⟩ ⟨(Nat.le_of_ble_eq_true rfl), (Nat.le_of_ble_eq_true rfl)⟩ (Nat.le_of_ble_eq_true rfl) rfl 1336 rfl (by decide +kernel) [.int r794] rfl ?_
  refine v_aload_n C 2 2 rfl 1337 rfl (by decide +kernel) ?_
  refine v_aload_n C 0 0 rfl 1338 rfl (by decide +kernel) ?_
  refine v_iload_n C 3 3 rfl 1339 rfl (by decide +kernel) ?_
  refine v_iconst C (1) (1) (by decide) 1340 rfl (by decide +kernel) ?_
  refine v_iadd C 1341 rfl (by decide +kernel) ?_
  obtain ⟨hi795, hf⟩ := grd_e hf
  refine v_sld C hX hbl hG hi795 1342 rfl (by decide +kernel) ?_
  refine v_aload_n C 0 0 rfl 1343 rfl (by decide +kernel) ?_
  refine v_iload_n C 3 3 rfl 1344 rfl (by decide +kernel) ?_
  refine v_iconst C (2) (2) (by decide) 1345 rfl (by decide +kernel) ?_
  refine v_iadd C 1346 rfl (by decide +kernel) ?_
  obtain ⟨hi796, hf⟩ := grd_e hf
  refine v_sld C hX hbl hG hi796 1347 rfl (by decide +kernel) ?_
  refine v_aload_n C 0 0 rfl 1348 rfl (by decide +kernel) ?_
  refine v_iload_n C 3 3 rfl 1349 rfl (by decide +kernel) ?_
  refine v_iconst C (3) (3) (by decide) 1350 rfl (by decide +kernel) ?_
  refine v_iadd C 1351 rfl (by decide +kernel) ?_
  obtain ⟨hi797, hf⟩ := grd_e hf
  refine v_sld C hX hbl hG hi797 1352 rfl (by decide +kernel) ?_
  obtain ⟨r799, σ798, hcr799, hf⟩ := cl2_e hf
  refine v_cV C 9 rfl (ns_kd_lt hk_a2 (by decide)) hk_a2 (by decide) [.int (xs (ns_ix (x3 + (1 : Int32)))), .int (xs (ns_ix (x3 + (2 : Int32)))), .int (xs (ns_ix (x3 + (3 : Int32))))] [.int r794] (c_M_judge G l σ793 a2 (xs (ns_ix (x3 + (1 : Int32)))) (xs (ns_ix (x3 + (2 : Int32)))) (xs (ns_ix (x3 + (3 : Int32)))) hcr799) 162 3 tw_1358 tw_1355 tw_1356 tw_1357 tw_10 hd_M_judge rfl ⟨(Nat.le_of_ble_eq_true rfl), (Nat.le_of_ble_eq_true rfl)⟩ ⟨(Nat.le_of_ble_eq_true rfl), (Nat.le_of_ble_eq_true rfl)⟩ (Nat.le_of_ble_eq_true rfl) rfl 1355 rfl (by decide +kernel) [.int r799, .int r794] rfl ?_
  refine v_icmp_eq C 1550 1358 rfl (by decide +kernel) (fun h800 => ?_) (fun h800 => ?_)
  · have hf := ite2_t hf h800
    obtain ⟨z801, hz801, hf⟩ := bnd_e hf
    refine v_iinc C 3 (6) 3 z801 rfl (by rw [hz801]; rfl) [(3, .int z801), (0, .ref b), (1, .ref (G.1 + a1)), (2, .ref (G.1 + a2))] (by decide) rfl 1553 rfl (by decide +kernel) ?_
    refine v_goto C 18 (by decide +kernel) ?_
    refine v_sub [1, 2, 3, 0] rfl ?_
    exact hkh18 σ798 a1 a2 z801 hk_a1 hk_a2 hf
  · have hf := ite2_f hf h800
    cases hf
theorem t_law_1360 (G : ns_G) (l : Launch) {p : Program} {e : Env} {s : State} {m : MethodId} {below : List Frame} {meth : Method} {c : Code} {b L : Nat} {xs : Nat → Int32} (C : ns_Cx G p s m #[Value.ref b] meth c code "NinthStepLaw" 4) (hr : meth.sig.returnType = ret) (hX : va_X b L xs s s.heap) (hbl : b < s.heap.size) (hG : G.1 = s.heap.size) {σ' : ns_St} {kh18 : ns_St → Nat → Nat → Int32 → Option (Unit × ns_St)} (hkh18 : ∀ (σ : ns_St) (a1 : Nat) (a2 : Nat) (x3 : Int32), ns_kd a1 = 8 → ns_kd a2 = 9 → kh18 σ a1 a2 x3 = some ((), σ') → VV G p l e room_1 s m #[Value.ref b] below meth c 4 82 14211 (lw_Z below #[Value.ref b] s) ns_N σ 18 [(0, .ref b), (1, .ref (G.1 + a1)), (2, .ref (G.1 + a2)), (3, .int x3)] []) (σ : ns_St) (a1 : Nat) (a2 : Nat) (x3 : Int32) (hk_a1 : ns_kd a1 = 8) (hk_a2 : ns_kd a2 = 9) (hf : g_law_1360 xs L kh18 σ a1 a2 x3 = some ((), σ')) : VV G p l e room_1 s m #[Value.ref b] below meth c 4 82 14211 (lw_Z below #[Value.ref b] s) ns_N σ 1360 [(0, .ref b), (1, .ref (G.1 + a1)), (2, .ref (G.1 + a2)), (3, .int x3)] [] := by
  unfold g_law_1360 at hf
  refine v_aload_n C 1 1 rfl 1361 rfl (by decide +kernel) ?_
  obtain ⟨r803, σ802, hcr803, hf⟩ := cl2_e hf
  refine v_cV C 8 rfl (ns_kd_lt hk_a1 (by decide)) hk_a1 (by decide) [] [] (c_N_worst G l σ a1 hcr803) 163 0 tw_903 tw_900 tw_901 tw_902 tw_1 hd_N_worst rfl ⟨(Nat.le_of_ble_eq_true rfl), (Nat.le_of_ble_eq_true rfl)⟩ ⟨(Nat.le_of_ble_eq_true rfl), (Nat.le_of_ble_eq_true rfl)⟩ (Nat.le_of_ble_eq_true rfl) rfl 1364 rfl (by decide +kernel) [.int r803] rfl ?_
  refine v_aload_n C 2 2 rfl 1365 rfl (by decide +kernel) ?_
  obtain ⟨r805, σ804, hcr805, hf⟩ := cl2_e hf
  refine v_cV C 9 rfl (ns_kd_lt hk_a2 (by decide)) hk_a2 (by decide) [] [.int r803] (c_M_worst G l σ802 a2 hcr805) 166 0 tw_1362 tw_1359 tw_1360 tw_1361 tw_10 hd_M_worst rfl ⟨(Nat.le_of_ble_eq_true rfl), (Nat.le_of_ble_eq_true rfl)⟩ ⟨(Nat.le_of_ble_eq_true rfl), (Nat.le_of_ble_eq_true rfl)⟩ (Nat.le_of_ble_eq_true rfl) rfl 1368 rfl (by decide +kernel) [.int r805, .int r803] rfl ?_
  refine v_icmp_eq C 1550 1371 rfl (by decide +kernel) (fun h806 => ?_) (fun h806 => ?_)
  · have hf := ite2_t hf h806
    obtain ⟨z807, hz807, hf⟩ := bnd_e hf
    refine v_iinc C 3 (6) 3 z807 rfl (by rw [hz807]; rfl) [(3, .int z807), (0, .ref b), (1, .ref (G.1 + a1)), (2, .ref (G.1 + a2))] (by decide) rfl 1553 rfl (by decide +kernel) ?_
    refine v_goto C 18 (by decide +kernel) ?_
    refine v_sub [1, 2, 3, 0] rfl ?_
    exact hkh18 σ804 a1 a2 z807 hk_a1 hk_a2 hf
  · have hf := ite2_f hf h806
    cases hf
theorem t_law_1373 (G : ns_G) (l : Launch) {p : Program} {e : Env} {s : State} {m : MethodId} {below : List Frame} {meth : Method} {c : Code} {b L : Nat} {xs : Nat → Int32} (C : ns_Cx G p s m #[Value.ref b] meth c code "NinthStepLaw" 4) (hr : meth.sig.returnType = ret) (hX : va_X b L xs s s.heap) (hbl : b < s.heap.size) (hG : G.1 = s.heap.size) {σ' : ns_St} {kh18 : ns_St → Nat → Nat → Int32 → Option (Unit × ns_St)} (hkh18 : ∀ (σ : ns_St) (a1 : Nat) (a2 : Nat) (x3 : Int32), ns_kd a1 = 8 → ns_kd a2 = 9 → kh18 σ a1 a2 x3 = some ((), σ') → VV G p l e room_1 s m #[Value.ref b] below meth c 4 82 14211 (lw_Z below #[Value.ref b] s) ns_N σ 18 [(0, .ref b), (1, .ref (G.1 + a1)), (2, .ref (G.1 + a2)), (3, .int x3)] []) (σ : ns_St) (a1 : Nat) (a2 : Nat) (x3 : Int32) (hk_a1 : ns_kd a1 = 8) (hk_a2 : ns_kd a2 = 9) (hf : g_law_1373 xs L kh18 σ a1 a2 x3 = some ((), σ')) : VV G p l e room_1 s m #[Value.ref b] below meth c 4 82 14211 (lw_Z below #[Value.ref b] s) ns_N σ 1373 [(0, .ref b), (1, .ref (G.1 + a1)), (2, .ref (G.1 + a2)), (3, .int x3)] [] := by
  unfold g_law_1373 at hf
  refine v_aload_n C 1 1 rfl 1374 rfl (by decide +kernel) ?_
  refine v_aload_n C 0 0 rfl 1375 rfl (by decide +kernel) ?_
  refine v_iload_n C 3 3 rfl 1376 rfl (by decide +kernel) ?_
  refine v_iconst C (1) (1) (by decide) 1377 rfl (by decide +kernel) ?_
  refine v_iadd C 1378 rfl (by decide +kernel) ?_
  obtain ⟨hi808, hf⟩ := grd_e hf
  refine v_sld C hX hbl hG hi808 1379 rfl (by decide +kernel) ?_
  obtain ⟨r810, σ809, hcr810, hf⟩ := cl2_e hf
  refine v_cV C 8 rfl (ns_kd_lt hk_a1 (by decide)) hk_a1 (by decide) [.int (xs (ns_ix (x3 + (1 : Int32))))] [] (c_N_lucky G l σ a1 (xs (ns_ix (x3 + (1 : Int32)))) hcr810) 167 1 tw_907 tw_904 tw_905 tw_906 tw_1 hd_N_lucky rfl ⟨(Nat.le_of_ble_eq_true rfl), (Nat.le_of_ble_eq_true rfl)⟩ ⟨(Nat.le_of_ble_eq_true rfl), (Nat.le_of_ble_eq_true rfl)⟩ (Nat.le_of_ble_eq_true rfl) rfl 1382 rfl (by decide +kernel) [.int r810] rfl ?_
  refine v_aload_n C 2 2 rfl 1383 rfl (by decide +kernel) ?_
  refine v_aload_n C 0 0 rfl 1384 rfl (by decide +kernel) ?_
  refine v_iload_n C 3 3 rfl 1385 rfl (by decide +kernel) ?_
  refine v_iconst C (1) (1) (by decide) 1386 rfl (by decide +kernel) ?_
  refine v_iadd C 1387 rfl (by decide +kernel) ?_
  obtain ⟨hi811, hf⟩ := grd_e hf
  refine v_sld C hX hbl hG hi811 1388 rfl (by decide +kernel) ?_
  obtain ⟨r813, σ812, hcr813, hf⟩ := cl2_e hf
  refine v_cV C 9 rfl (ns_kd_lt hk_a2 (by decide)) hk_a2 (by decide) [.int (xs (ns_ix (x3 + (1 : Int32))))] [.int r810] (c_M_lucky G l σ809 a2 (xs (ns_ix (x3 + (1 : Int32)))) hcr813) 170 1 tw_1366 tw_1363 tw_1364 tw_1365 tw_10 hd_M_lucky rfl ⟨(Nat.le_of_ble_eq_true rfl), (Nat.le_of_ble_eq_true rfl)⟩ ⟨(Nat.le_of_ble_eq_true rfl), (Nat.le_of_ble_eq_true rfl)⟩ (Nat.le_of_ble_eq_true rfl) rfl 1391 rfl (by decide +kernel) [.int r813, .int r810] rfl ?_
  refine v_icmp_eq C 1550 1394 rfl (by decide +kernel) (fun h814 => ?_) (fun h814 => ?_)
  · have hf := ite2_t hf h814
    obtain ⟨z815, hz815, hf⟩ := bnd_e hf
    refine v_iinc C 3 (6) 3 z815 rfl (by rw [hz815]; rfl) [(3, .int z815), (0, .ref b), (1, .ref (G.1 + a1)), (2, .ref (G.1 + a2))] (by decide) rfl 1553 rfl (by decide +kernel) ?_
    refine v_goto C 18 (by decide +kernel) ?_
    refine v_sub [1, 2, 3, 0] rfl ?_
    exact hkh18 σ812 a1 a2 z815 hk_a1 hk_a2 hf
  · have hf := ite2_f hf h814
    cases hf
theorem t_law_1396 (G : ns_G) (l : Launch) {p : Program} {e : Env} {s : State} {m : MethodId} {below : List Frame} {meth : Method} {c : Code} {b L : Nat} {xs : Nat → Int32} (C : ns_Cx G p s m #[Value.ref b] meth c code "NinthStepLaw" 4) (hr : meth.sig.returnType = ret) (hX : va_X b L xs s s.heap) (hbl : b < s.heap.size) (hG : G.1 = s.heap.size) {σ' : ns_St} {kh18 : ns_St → Nat → Nat → Int32 → Option (Unit × ns_St)} (hkh18 : ∀ (σ : ns_St) (a1 : Nat) (a2 : Nat) (x3 : Int32), ns_kd a1 = 8 → ns_kd a2 = 9 → kh18 σ a1 a2 x3 = some ((), σ') → VV G p l e room_1 s m #[Value.ref b] below meth c 4 82 14211 (lw_Z below #[Value.ref b] s) ns_N σ 18 [(0, .ref b), (1, .ref (G.1 + a1)), (2, .ref (G.1 + a2)), (3, .int x3)] []) (σ : ns_St) (a1 : Nat) (a2 : Nat) (x3 : Int32) (hk_a1 : ns_kd a1 = 8) (hk_a2 : ns_kd a2 = 9) (hf : g_law_1396 xs L kh18 σ a1 a2 x3 = some ((), σ')) : VV G p l e room_1 s m #[Value.ref b] below meth c 4 82 14211 (lw_Z below #[Value.ref b] s) ns_N σ 1396 [(0, .ref b), (1, .ref (G.1 + a1)), (2, .ref (G.1 + a2)), (3, .int x3)] [] := by
  unfold g_law_1396 at hf
  refine v_aload_n C 1 1 rfl 1397 rfl (by decide +kernel) ?_
  refine v_aload_n C 0 0 rfl 1398 rfl (by decide +kernel) ?_
  refine v_iload_n C 3 3 rfl 1399 rfl (by decide +kernel) ?_
  refine v_iconst C (1) (1) (by decide) 1400 rfl (by decide +kernel) ?_
  refine v_iadd C 1401 rfl (by decide +kernel) ?_
  obtain ⟨hi816, hf⟩ := grd_e hf
  refine v_sld C hX hbl hG hi816 1402 rfl (by decide +kernel) ?_
  refine v_aload_n C 0 0 rfl 1403 rfl (by decide +kernel) ?_
  refine v_iload_n C 3 3 rfl 1404 rfl (by decide +kernel) ?_
  refine v_iconst C (2) (2) (by decide) 1405 rfl (by decide +kernel) ?_
  refine v_iadd C 1406 rfl (by decide +kernel) ?_
  obtain ⟨hi817, hf⟩ := grd_e hf
  refine v_sld C hX hbl hG hi817 1407 rfl (by decide +kernel) ?_
  obtain ⟨r819, σ818, hcr819, hf⟩ := cl2_e hf
  refine v_cV C 8 rfl (ns_kd_lt hk_a1 (by decide)) hk_a1 (by decide) [.int (xs (ns_ix (x3 + (1 : Int32)))), .int (xs (ns_ix (x3 + (2 : Int32))))] [] (c_N_goes G l σ a1 (xs (ns_ix (x3 + (1 : Int32)))) (xs (ns_ix (x3 + (2 : Int32)))) hcr819) 171 2 tw_911 tw_908 tw_909 tw_910 tw_1 hd_N_goes rfl ⟨(Nat.le_of_ble_eq_true rfl), (Nat.le_of_ble_eq_true rfl)⟩ ⟨(Nat.le_of_ble_eq_true rfl), (Nat.le_of_ble_eq_true rfl)⟩ (Nat.le_of_ble_eq_true rfl) rfl 1410 rfl (by decide +kernel) [.int r819] rfl ?_
  refine v_aload_n C 2 2 rfl 1411 rfl (by decide +kernel) ?_
  refine v_aload_n C 0 0 rfl 1412 rfl (by decide +kernel) ?_
  refine v_iload_n C 3 3 rfl 1413 rfl (by decide +kernel) ?_
  refine v_iconst C (1) (1) (by decide) 1414 rfl (by decide +kernel) ?_
  refine v_iadd C 1415 rfl (by decide +kernel) ?_
  obtain ⟨hi820, hf⟩ := grd_e hf
  refine v_sld C hX hbl hG hi820 1416 rfl (by decide +kernel) ?_
  refine v_aload_n C 0 0 rfl 1417 rfl (by decide +kernel) ?_
  refine v_iload_n C 3 3 rfl 1418 rfl (by decide +kernel) ?_
  refine v_iconst C (2) (2) (by decide) 1419 rfl (by decide +kernel) ?_
  refine v_iadd C 1420 rfl (by decide +kernel) ?_
  obtain ⟨hi821, hf⟩ := grd_e hf
  refine v_sld C hX hbl hG hi821 1421 rfl (by decide +kernel) ?_
  obtain ⟨r823, σ822, hcr823, hf⟩ := cl2_e hf
  refine v_cV C 9 rfl (ns_kd_lt hk_a2 (by decide)) hk_a2 (by decide) [.int (xs (ns_ix (x3 + (1 : Int32)))), .int (xs (ns_ix (x3 + (2 : Int32))))] [.int r819] (c_M_goes G l σ818 a2 (xs (ns_ix (x3 + (1 : Int32)))) (xs (ns_ix (x3 + (2 : Int32)))) hcr823) 174 2 tw_1370 tw_1367 tw_1368 tw_1369 tw_10 hd_M_goes rfl ⟨(Nat.le_of_ble_eq_true rfl), (Nat.le_of_ble_eq_true rfl)⟩ ⟨(Nat.le_of_ble_eq_true rfl), (Nat.le_of_ble_eq_true rfl)⟩ (Nat.le_of_ble_eq_true rfl) rfl 1424 rfl (by decide +kernel) [.int r823, .int r819] rfl ?_
  refine v_icmp_eq C 1550 1427 rfl (by decide +kernel) (fun h824 => ?_) (fun h824 => ?_)
  · have hf := ite2_t hf h824
    obtain ⟨z825, hz825, hf⟩ := bnd_e hf
    refine v_iinc C 3 (6) 3 z825 rfl (by rw [hz825]; rfl) [(3, .int z825), (0, .ref b), (1, .ref (G.1 + a1)), (2, .ref (G.1 + a2))] (by decide) rfl 1553 rfl (by decide +kernel) ?_
    refine v_goto C 18 (by decide +kernel) ?_
    refine v_sub [1, 2, 3, 0] rfl ?_
    exact hkh18 σ822 a1 a2 z825 hk_a1 hk_a2 hf
  · have hf := ite2_f hf h824
    cases hf
theorem t_law_1429 (G : ns_G) (l : Launch) {p : Program} {e : Env} {s : State} {m : MethodId} {below : List Frame} {meth : Method} {c : Code} {b L : Nat} {xs : Nat → Int32} (C : ns_Cx G p s m #[Value.ref b] meth c code "NinthStepLaw" 4) (hr : meth.sig.returnType = ret) (hX : va_X b L xs s s.heap) (hbl : b < s.heap.size) (hG : G.1 = s.heap.size) {σ' : ns_St} {kh18 : ns_St → Nat → Nat → Int32 → Option (Unit × ns_St)} (hkh18 : ∀ (σ : ns_St) (a1 : Nat) (a2 : Nat) (x3 : Int32), ns_kd a1 = 8 → ns_kd a2 = 9 → kh18 σ a1 a2 x3 = some ((), σ') → VV G p l e room_1 s m #[Value.ref b] below meth c 4 82 14211 (lw_Z below #[Value.ref b] s) ns_N σ 18 [(0, .ref b), (1, .ref (G.1 + a1)), (2, .ref (G.1 + a2)), (3, .int x3)] []) (σ : ns_St) (a1 : Nat) (a2 : Nat) (x3 : Int32) (hk_a1 : ns_kd a1 = 8) (hk_a2 : ns_kd a2 = 9) (hf : g_law_1429 xs L kh18 σ a1 a2 x3 = some ((), σ')) : VV G p l e room_1 s m #[Value.ref b] below meth c 4 82 14211 (lw_Z below #[Value.ref b] s) ns_N σ 1429 [(0, .ref b), (1, .ref (G.1 + a1)), (2, .ref (G.1 + a2)), (3, .int x3)] [] := by
  unfold g_law_1429 at hf
  refine v_aload_n C 1 1 rfl 1430 rfl (by decide +kernel) ?_
  refine v_aload_n C 0 0 rfl 1431 rfl (by decide +kernel) ?_
  refine v_iload_n C 3 3 rfl 1432 rfl (by decide +kernel) ?_
  refine v_iconst C (1) (1) (by decide) 1433 rfl (by decide +kernel) ?_
  refine v_iadd C 1434 rfl (by decide +kernel) ?_
  obtain ⟨hi826, hf⟩ := grd_e hf
  refine v_sld C hX hbl hG hi826 1435 rfl (by decide +kernel) ?_
  obtain ⟨r828, σ827, hcr828, hf⟩ := cl2_e hf
  refine v_cV C 8 rfl (ns_kd_lt hk_a1 (by decide)) hk_a1 (by decide) [.int (xs (ns_ix (x3 + (1 : Int32))))] [] (c_N_turn G l σ a1 (xs (ns_ix (x3 + (1 : Int32)))) hcr828) 175 1 tw_925 tw_922 tw_923 tw_924 tw_1 hd_N_turn rfl ⟨(Nat.le_of_ble_eq_true rfl), (Nat.le_of_ble_eq_true rfl)⟩ ⟨(Nat.le_of_ble_eq_true rfl), (Nat.le_of_ble_eq_true rfl)⟩ (Nat.le_of_ble_eq_true rfl) rfl 1438 rfl (by decide +kernel) [.int r828] rfl ?_
  refine v_aload_n C 2 2 rfl 1439 rfl (by decide +kernel) ?_
  refine v_aload_n C 0 0 rfl 1440 rfl (by decide +kernel) ?_
  refine v_iload_n C 3 3 rfl 1441 rfl (by decide +kernel) ?_
  refine v_iconst C (1) (1) (by decide) 1442 rfl (by decide +kernel) ?_
  refine v_iadd C 1443 rfl (by decide +kernel) ?_
  obtain ⟨hi829, hf⟩ := grd_e hf
  refine v_sld C hX hbl hG hi829 1444 rfl (by decide +kernel) ?_
  obtain ⟨r831, σ830, hcr831, hf⟩ := cl2_e hf
  refine v_cV C 9 rfl (ns_kd_lt hk_a2 (by decide)) hk_a2 (by decide) [.int (xs (ns_ix (x3 + (1 : Int32))))] [.int r828] (c_M_turn G l σ827 a2 (xs (ns_ix (x3 + (1 : Int32)))) hcr831) 178 1 tw_1382 tw_1379 tw_1380 tw_1381 tw_10 hd_M_turn rfl ⟨(Nat.le_of_ble_eq_true rfl), (Nat.le_of_ble_eq_true rfl)⟩ ⟨(Nat.le_of_ble_eq_true rfl), (Nat.le_of_ble_eq_true rfl)⟩ (Nat.le_of_ble_eq_true rfl) rfl 1447 rfl (by decide +kernel) [.int r831, .int r828] rfl ?_
  refine v_icmp_eq C 1550 1450 rfl (by decide +kernel) (fun h832 => ?_) (fun h832 => ?_)
  · have hf := ite2_t hf h832
    obtain ⟨z833, hz833, hf⟩ := bnd_e hf
    refine v_iinc C 3 (6) 3 z833 rfl (by rw [hz833]; rfl) [(3, .int z833), (0, .ref b), (1, .ref (G.1 + a1)), (2, .ref (G.1 + a2))] (by decide) rfl 1553 rfl (by decide +kernel) ?_
    refine v_goto C 18 (by decide +kernel) ?_
    refine v_sub [1, 2, 3, 0] rfl ?_
    exact hkh18 σ830 a1 a2 z833 hk_a1 hk_a2 hf
  · have hf := ite2_f hf h832
    cases hf
theorem t_law_1452 (G : ns_G) (l : Launch) {p : Program} {e : Env} {s : State} {m : MethodId} {below : List Frame} {meth : Method} {c : Code} {b L : Nat} {xs : Nat → Int32} (C : ns_Cx G p s m #[Value.ref b] meth c code "NinthStepLaw" 4) (hr : meth.sig.returnType = ret) (hX : va_X b L xs s s.heap) (hbl : b < s.heap.size) (hG : G.1 = s.heap.size) {σ' : ns_St} {kh18 : ns_St → Nat → Nat → Int32 → Option (Unit × ns_St)} (hkh18 : ∀ (σ : ns_St) (a1 : Nat) (a2 : Nat) (x3 : Int32), ns_kd a1 = 8 → ns_kd a2 = 9 → kh18 σ a1 a2 x3 = some ((), σ') → VV G p l e room_1 s m #[Value.ref b] below meth c 4 82 14211 (lw_Z below #[Value.ref b] s) ns_N σ 18 [(0, .ref b), (1, .ref (G.1 + a1)), (2, .ref (G.1 + a2)), (3, .int x3)] []) (σ : ns_St) (a1 : Nat) (a2 : Nat) (x3 : Int32) (hk_a1 : ns_kd a1 = 8) (hk_a2 : ns_kd a2 = 9) (hf : g_law_1452 xs L kh18 σ a1 a2 x3 = some ((), σ')) : VV G p l e room_1 s m #[Value.ref b] below meth c 4 82 14211 (lw_Z below #[Value.ref b] s) ns_N σ 1452 [(0, .ref b), (1, .ref (G.1 + a1)), (2, .ref (G.1 + a2)), (3, .int x3)] [] := by
  unfold g_law_1452 at hf
  refine v_aload_n C 1 1 rfl 1453 rfl (by decide +kernel) ?_
  obtain ⟨r835, σ834, hcr835, hf⟩ := cl2_e hf
  refine v_cV C 8 rfl (ns_kd_lt hk_a1 (by decide)) hk_a1 (by decide) [] [] (c_N_day G l σ a1 hcr835) 179 0 tw_934 tw_931 tw_932 tw_933 tw_1 hd_N_day rfl ⟨(Nat.le_of_ble_eq_true rfl), (Nat.le_of_ble_eq_true rfl)⟩ ⟨(Nat.le_of_ble_eq_true rfl), (Nat.le_of_ble_eq_true rfl)⟩ (Nat.le_of_ble_eq_true rfl) rfl 1456 rfl (by decide +kernel) [.int r835] rfl ?_
  refine v_aload_n C 2 2 rfl 1457 rfl (by decide +kernel) ?_
  obtain ⟨r837, σ836, hcr837, hf⟩ := cl2_e hf
  refine v_cV C 9 rfl (ns_kd_lt hk_a2 (by decide)) hk_a2 (by decide) [] [.int r835] (c_M_day G l σ834 a2 hcr837) 182 0 tw_1386 tw_1383 tw_1384 tw_1385 tw_10 hd_M_day rfl ⟨(Nat.le_of_ble_eq_true rfl), (Nat.le_of_ble_eq_true rfl)⟩ ⟨(Nat.le_of_ble_eq_true rfl), (Nat.le_of_ble_eq_true rfl)⟩ (Nat.le_of_ble_eq_true rfl) rfl 1460 rfl (by decide +kernel) [.int r837, .int r835] rfl ?_
  refine v_icmp_eq C 1550 1463 rfl (by decide +kernel) (fun h838 => ?_) (fun h838 => ?_)
  · have hf := ite2_t hf h838
    obtain ⟨z839, hz839, hf⟩ := bnd_e hf
    refine v_iinc C 3 (6) 3 z839 rfl (by rw [hz839]; rfl) [(3, .int z839), (0, .ref b), (1, .ref (G.1 + a1)), (2, .ref (G.1 + a2))] (by decide) rfl 1553 rfl (by decide +kernel) ?_
    refine v_goto C 18 (by decide +kernel) ?_
    refine v_sub [1, 2, 3, 0] rfl ?_
    exact hkh18 σ836 a1 a2 z839 hk_a1 hk_a2 hf
  · have hf := ite2_f hf h838
    cases hf
theorem t_law_1465 (G : ns_G) (l : Launch) {p : Program} {e : Env} {s : State} {m : MethodId} {below : List Frame} {meth : Method} {c : Code} {b L : Nat} {xs : Nat → Int32} (C : ns_Cx G p s m #[Value.ref b] meth c code "NinthStepLaw" 4) (hr : meth.sig.returnType = ret) (hX : va_X b L xs s s.heap) (hbl : b < s.heap.size) (hG : G.1 = s.heap.size) {σ' : ns_St} {kh18 : ns_St → Nat → Nat → Int32 → Option (Unit × ns_St)} (hkh18 : ∀ (σ : ns_St) (a1 : Nat) (a2 : Nat) (x3 : Int32), ns_kd a1 = 8 → ns_kd a2 = 9 → kh18 σ a1 a2 x3 = some ((), σ') → VV G p l e room_1 s m #[Value.ref b] below meth c 4 82 14211 (lw_Z below #[Value.ref b] s) ns_N σ 18 [(0, .ref b), (1, .ref (G.1 + a1)), (2, .ref (G.1 + a2)), (3, .int x3)] []) (σ : ns_St) (a1 : Nat) (a2 : Nat) (x3 : Int32) (hk_a1 : ns_kd a1 = 8) (hk_a2 : ns_kd a2 = 9) (hf : g_law_1465 xs L kh18 σ a1 a2 x3 = some ((), σ')) : VV G p l e room_1 s m #[Value.ref b] below meth c 4 82 14211 (lw_Z below #[Value.ref b] s) ns_N σ 1465 [(0, .ref b), (1, .ref (G.1 + a1)), (2, .ref (G.1 + a2)), (3, .int x3)] [] := by
  unfold g_law_1465 at hf
  refine v_aload_n C 1 1 rfl 1466 rfl (by decide +kernel) ?_
  obtain ⟨r841, σ840, hcr841, hf⟩ := cl2_e hf
  refine v_cV C 8 rfl (ns_kd_lt hk_a1 (by decide)) hk_a1 (by decide) [] [] (c_N_home G l σ a1 hcr841) 183 0 tw_948 tw_945 tw_946 tw_947 tw_1 hd_N_home rfl ⟨(Nat.le_of_ble_eq_true rfl), (Nat.le_of_ble_eq_true rfl)⟩ ⟨(Nat.le_of_ble_eq_true rfl), (Nat.le_of_ble_eq_true rfl)⟩ (Nat.le_of_ble_eq_true rfl) rfl 1469 rfl (by decide +kernel) [.int r841] rfl ?_
  refine v_aload_n C 2 2 rfl 1470 rfl (by decide +kernel) ?_
  obtain ⟨r843, σ842, hcr843, hf⟩ := cl2_e hf
  refine v_cV C 9 rfl (ns_kd_lt hk_a2 (by decide)) hk_a2 (by decide) [] [.int r841] (c_M_home G l σ840 a2 hcr843) 186 0 tw_1395 tw_1392 tw_1393 tw_1394 tw_10 hd_M_home rfl ⟨(Nat.le_of_ble_eq_true rfl), (Nat.le_of_ble_eq_true rfl)⟩ ⟨(Nat.le_of_ble_eq_true rfl), (Nat.le_of_ble_eq_true rfl)⟩ (Nat.le_of_ble_eq_true rfl) rfl 1473 rfl (by decide +kernel) [.int r843, .int r841] rfl ?_
  refine v_icmp_eq C 1550 1476 rfl (by decide +kernel) (fun h844 => ?_) (fun h844 => ?_)
  · have hf := ite2_t hf h844
    obtain ⟨z845, hz845, hf⟩ := bnd_e hf
    refine v_iinc C 3 (6) 3 z845 rfl (by rw [hz845]; rfl) [(3, .int z845), (0, .ref b), (1, .ref (G.1 + a1)), (2, .ref (G.1 + a2))] (by decide) rfl 1553 rfl (by decide +kernel) ?_
    refine v_goto C 18 (by decide +kernel) ?_
    refine v_sub [1, 2, 3, 0] rfl ?_
    exact hkh18 σ842 a1 a2 z845 hk_a1 hk_a2 hf
  · have hf := ite2_f hf h844
    cases hf
theorem t_law_1478 (G : ns_G) (l : Launch) {p : Program} {e : Env} {s : State} {m : MethodId} {below : List Frame} {meth : Method} {c : Code} {b L : Nat} {xs : Nat → Int32} (C : ns_Cx G p s m #[Value.ref b] meth c code "NinthStepLaw" 4) (hr : meth.sig.returnType = ret) (hX : va_X b L xs s s.heap) (hbl : b < s.heap.size) (hG : G.1 = s.heap.size) {σ' : ns_St} {kh18 : ns_St → Nat → Nat → Int32 → Option (Unit × ns_St)} (hkh18 : ∀ (σ : ns_St) (a1 : Nat) (a2 : Nat) (x3 : Int32), ns_kd a1 = 8 → ns_kd a2 = 9 → kh18 σ a1 a2 x3 = some ((), σ') → VV G p l e room_1 s m #[Value.ref b] below meth c 4 82 14211 (lw_Z below #[Value.ref b] s) ns_N σ 18 [(0, .ref b), (1, .ref (G.1 + a1)), (2, .ref (G.1 + a2)), (3, .int x3)] []) (σ : ns_St) (a1 : Nat) (a2 : Nat) (x3 : Int32) (hk_a1 : ns_kd a1 = 8) (hk_a2 : ns_kd a2 = 9) (hf : g_law_1478 xs L kh18 σ a1 a2 x3 = some ((), σ')) : VV G p l e room_1 s m #[Value.ref b] below meth c 4 82 14211 (lw_Z below #[Value.ref b] s) ns_N σ 1478 [(0, .ref b), (1, .ref (G.1 + a1)), (2, .ref (G.1 + a2)), (3, .int x3)] [] := by
  unfold g_law_1478 at hf
  refine v_aload_n C 1 1 rfl 1479 rfl (by decide +kernel) ?_
  refine v_aload_n C 0 0 rfl 1480 rfl (by decide +kernel) ?_
  refine v_iload_n C 3 3 rfl 1481 rfl (by decide +kernel) ?_
  refine v_iconst C (1) (1) (by decide) 1482 rfl (by decide +kernel) ?_
  refine v_iadd C 1483 rfl (by decide +kernel) ?_
  obtain ⟨hi846, hf⟩ := grd_e hf
  refine v_sld C hX hbl hG hi846 1484 rfl (by decide +kernel) ?_
  obtain ⟨r848, σ847, hcr848, hf⟩ := cl2_e hf
  refine v_cV C 8 rfl (ns_kd_lt hk_a1 (by decide)) hk_a1 (by decide) [.int (xs (ns_ix (x3 + (1 : Int32))))] [] (c_N_seed G l σ a1 (xs (ns_ix (x3 + (1 : Int32)))) hcr848) 187 1 tw_952 tw_949 tw_950 tw_951 tw_1 hd_N_seed rfl ⟨(Nat.le_of_ble_eq_true rfl), (Nat.le_of_ble_eq_true rfl)⟩ ⟨(Nat.le_of_ble_eq_true rfl), (Nat.le_of_ble_eq_true rfl)⟩ (Nat.le_of_ble_eq_true rfl) rfl 1487 rfl (by decide +kernel) [.int r848] rfl ?_
  refine v_aload_n C 2 2 rfl 1488 rfl (by decide +kernel) ?_
  refine v_aload_n C 0 0 rfl 1489 rfl (by decide +kernel) ?_
  refine v_iload_n C 3 3 rfl 1490 rfl (by decide +kernel) ?_
  refine v_iconst C (1) (1) (by decide) 1491 rfl (by decide +kernel) ?_
  refine v_iadd C 1492 rfl (by decide +kernel) ?_
  obtain ⟨hi849, hf⟩ := grd_e hf
  refine v_sld C hX hbl hG hi849 1493 rfl (by decide +kernel) ?_
  obtain ⟨r851, σ850, hcr851, hf⟩ := cl2_e hf
  refine v_cV C 9 rfl (ns_kd_lt hk_a2 (by decide)) hk_a2 (by decide) [.int (xs (ns_ix (x3 + (1 : Int32))))] [.int r848] (c_M_seed G l σ847 a2 (xs (ns_ix (x3 + (1 : Int32)))) hcr851) 190 1 tw_1399 tw_1396 tw_1397 tw_1398 tw_10 hd_M_seed rfl ⟨(Nat.le_of_ble_eq_true rfl), (Nat.le_of_ble_eq_true rfl)⟩ ⟨(Nat.le_of_ble_eq_true rfl), (Nat.le_of_ble_eq_true rfl)⟩ (Nat.le_of_ble_eq_true rfl) rfl 1496 rfl (by decide +kernel) [.int r851, .int r848] rfl ?_
  refine v_icmp_eq C 1550 1499 rfl (by decide +kernel) (fun h852 => ?_) (fun h852 => ?_)
  · have hf := ite2_t hf h852
    obtain ⟨z853, hz853, hf⟩ := bnd_e hf
    refine v_iinc C 3 (6) 3 z853 rfl (by rw [hz853]; rfl) [(3, .int z853), (0, .ref b), (1, .ref (G.1 + a1)), (2, .ref (G.1 + a2))] (by decide) rfl 1553 rfl (by decide +kernel) ?_
    refine v_goto C 18 (by decide +kernel) ?_
    refine v_sub [1, 2, 3, 0] rfl ?_
    exact hkh18 σ850 a1 a2 z853 hk_a1 hk_a2 hf
  · have hf := ite2_f hf h852
    cases hf
theorem t_law_1501 (G : ns_G) (l : Launch) {p : Program} {e : Env} {s : State} {m : MethodId} {below : List Frame} {meth : Method} {c : Code} {b L : Nat} {xs : Nat → Int32} (C : ns_Cx G p s m #[Value.ref b] meth c code "NinthStepLaw" 4) (hr : meth.sig.returnType = ret) (hX : va_X b L xs s s.heap) (hbl : b < s.heap.size) (hG : G.1 = s.heap.size) {σ' : ns_St} {kh18 : ns_St → Nat → Nat → Int32 → Option (Unit × ns_St)} (hkh18 : ∀ (σ : ns_St) (a1 : Nat) (a2 : Nat) (x3 : Int32), ns_kd a1 = 8 → ns_kd a2 = 9 → kh18 σ a1 a2 x3 = some ((), σ') → VV G p l e room_1 s m #[Value.ref b] below meth c 4 82 14211 (lw_Z below #[Value.ref b] s) ns_N σ 18 [(0, .ref b), (1, .ref (G.1 + a1)), (2, .ref (G.1 + a2)), (3, .int x3)] []) (σ : ns_St) (a1 : Nat) (a2 : Nat) (x3 : Int32) (hk_a1 : ns_kd a1 = 8) (hk_a2 : ns_kd a2 = 9) (hf : g_law_1501 xs L kh18 σ a1 a2 x3 = some ((), σ')) : VV G p l e room_1 s m #[Value.ref b] below meth c 4 82 14211 (lw_Z below #[Value.ref b] s) ns_N σ 1501 [(0, .ref b), (1, .ref (G.1 + a1)), (2, .ref (G.1 + a2)), (3, .int x3)] [] := by
  unfold g_law_1501 at hf
  refine v_aload_n C 1 1 rfl 1502 rfl (by decide +kernel) ?_
  obtain ⟨r855, σ854, hcr855, hf⟩ := cl2_e hf
  refine v_cV C 8 rfl (ns_kd_lt hk_a1 (by decide)) hk_a1 (by decide) [] [] (c_N_image G l σ a1 hcr855) 191 0 tw_956 tw_953 tw_954 tw_955 tw_1 hd_N_image rfl ⟨(Nat.le_of_ble_eq_true rfl), (Nat.le_of_ble_eq_true rfl)⟩ ⟨(Nat.le_of_ble_eq_true rfl), (Nat.le_of_ble_eq_true rfl)⟩ (Nat.le_of_ble_eq_true rfl) rfl 1505 rfl (by decide +kernel) [.int r855] rfl ?_
  refine v_aload_n C 2 2 rfl 1506 rfl (by decide +kernel) ?_
  obtain ⟨r857, σ856, hcr857, hf⟩ := cl2_e hf
  refine v_cV C 9 rfl (ns_kd_lt hk_a2 (by decide)) hk_a2 (by decide) [] [.int r855] (c_M_image G l σ854 a2 hcr857) 194 0 tw_1403 tw_1400 tw_1401 tw_1402 tw_10 hd_M_image rfl ⟨(Nat.le_of_ble_eq_true rfl), (Nat.le_of_ble_eq_true rfl)⟩ ⟨(Nat.le_of_ble_eq_true rfl), (Nat.le_of_ble_eq_true rfl)⟩ (Nat.le_of_ble_eq_true rfl) rfl 1509 rfl (by decide +kernel) [.int r857, .int r855] rfl ?_
  refine v_icmp_eq C 1550 1512 rfl (by decide +kernel) (fun h858 => ?_) (fun h858 => ?_)
  · have hf := ite2_t hf h858
    obtain ⟨z859, hz859, hf⟩ := bnd_e hf
    refine v_iinc C 3 (6) 3 z859 rfl (by rw [hz859]; rfl) [(3, .int z859), (0, .ref b), (1, .ref (G.1 + a1)), (2, .ref (G.1 + a2))] (by decide) rfl 1553 rfl (by decide +kernel) ?_
    refine v_goto C 18 (by decide +kernel) ?_
    refine v_sub [1, 2, 3, 0] rfl ?_
    exact hkh18 σ856 a1 a2 z859 hk_a1 hk_a2 hf
  · have hf := ite2_f hf h858
    cases hf
theorem t_law_1514 (G : ns_G) (l : Launch) {p : Program} {e : Env} {s : State} {m : MethodId} {below : List Frame} {meth : Method} {c : Code} {b L : Nat} {xs : Nat → Int32} (C : ns_Cx G p s m #[Value.ref b] meth c code "NinthStepLaw" 4) (hr : meth.sig.returnType = ret) (hX : va_X b L xs s s.heap) (hbl : b < s.heap.size) (hG : G.1 = s.heap.size) {σ' : ns_St} {kh18 : ns_St → Nat → Nat → Int32 → Option (Unit × ns_St)} (hkh18 : ∀ (σ : ns_St) (a1 : Nat) (a2 : Nat) (x3 : Int32), ns_kd a1 = 8 → ns_kd a2 = 9 → kh18 σ a1 a2 x3 = some ((), σ') → VV G p l e room_1 s m #[Value.ref b] below meth c 4 82 14211 (lw_Z below #[Value.ref b] s) ns_N σ 18 [(0, .ref b), (1, .ref (G.1 + a1)), (2, .ref (G.1 + a2)), (3, .int x3)] []) (σ : ns_St) (a1 : Nat) (a2 : Nat) (x3 : Int32) (hk_a1 : ns_kd a1 = 8) (hk_a2 : ns_kd a2 = 9) (hf : g_law_1514 xs L kh18 σ a1 a2 x3 = some ((), σ')) : VV G p l e room_1 s m #[Value.ref b] below meth c 4 82 14211 (lw_Z below #[Value.ref b] s) ns_N σ 1514 [(0, .ref b), (1, .ref (G.1 + a1)), (2, .ref (G.1 + a2)), (3, .int x3)] [] := by
  unfold g_law_1514 at hf
  refine v_aload_n C 1 1 rfl 1515 rfl (by decide +kernel) ?_
  obtain ⟨r861, σ860, hcr861, hf⟩ := cl2_e hf
  refine v_cV C 8 rfl (ns_kd_lt hk_a1 (by decide)) hk_a1 (by decide) [] [] (c_N_back G l σ a1 hcr861) 195 0 tw_960 tw_957 tw_958 tw_959 tw_1 hd_N_back rfl ⟨(Nat.le_of_ble_eq_true rfl), (Nat.le_of_ble_eq_true rfl)⟩ ⟨(Nat.le_of_ble_eq_true rfl), (Nat.le_of_ble_eq_true rfl)⟩ (Nat.le_of_ble_eq_true rfl) rfl 1518 rfl (by decide +kernel) [.int r861] rfl ?_
  refine v_aload_n C 2 2 rfl 1519 rfl (by decide +kernel) ?_
  obtain ⟨r863, σ862, hcr863, hf⟩ := cl2_e hf
  refine v_cV C 9 rfl (ns_kd_lt hk_a2 (by decide)) hk_a2 (by decide) [] [.int r861] (c_M_back G l σ860 a2 hcr863) 198 0 tw_1407 tw_1404 tw_1405 tw_1406 tw_10 hd_M_back rfl ⟨(Nat.le_of_ble_eq_true rfl), (Nat.le_of_ble_eq_true rfl)⟩ ⟨(Nat.le_of_ble_eq_true rfl), (Nat.le_of_ble_eq_true rfl)⟩ (Nat.le_of_ble_eq_true rfl) rfl 1522 rfl (by decide +kernel) [.int r863, .int r861] rfl ?_
  refine v_icmp_eq C 1550 1525 rfl (by decide +kernel) (fun h864 => ?_) (fun h864 => ?_)
  · have hf := ite2_t hf h864
    obtain ⟨z865, hz865, hf⟩ := bnd_e hf
    refine v_iinc C 3 (6) 3 z865 rfl (by rw [hz865]; rfl) [(3, .int z865), (0, .ref b), (1, .ref (G.1 + a1)), (2, .ref (G.1 + a2))] (by decide) rfl 1553 rfl (by decide +kernel) ?_
    refine v_goto C 18 (by decide +kernel) ?_
    refine v_sub [1, 2, 3, 0] rfl ?_
    exact hkh18 σ862 a1 a2 z865 hk_a1 hk_a2 hf
  · have hf := ite2_f hf h864
    cases hf
theorem t_law_1527 (G : ns_G) (l : Launch) {p : Program} {e : Env} {s : State} {m : MethodId} {below : List Frame} {meth : Method} {c : Code} {b L : Nat} {xs : Nat → Int32} (C : ns_Cx G p s m #[Value.ref b] meth c code "NinthStepLaw" 4) (hr : meth.sig.returnType = ret) (hX : va_X b L xs s s.heap) (hbl : b < s.heap.size) (hG : G.1 = s.heap.size) {σ' : ns_St} {kh18 : ns_St → Nat → Nat → Int32 → Option (Unit × ns_St)} (hkh18 : ∀ (σ : ns_St) (a1 : Nat) (a2 : Nat) (x3 : Int32), ns_kd a1 = 8 → ns_kd a2 = 9 → kh18 σ a1 a2 x3 = some ((), σ') → VV G p l e room_1 s m #[Value.ref b] below meth c 4 82 14211 (lw_Z below #[Value.ref b] s) ns_N σ 18 [(0, .ref b), (1, .ref (G.1 + a1)), (2, .ref (G.1 + a2)), (3, .int x3)] []) (σ : ns_St) (a1 : Nat) (a2 : Nat) (x3 : Int32) (hk_a1 : ns_kd a1 = 8) (hk_a2 : ns_kd a2 = 9) (hf : g_law_1527 xs L kh18 σ a1 a2 x3 = some ((), σ')) : VV G p l e room_1 s m #[Value.ref b] below meth c 4 82 14211 (lw_Z below #[Value.ref b] s) ns_N σ 1527 [(0, .ref b), (1, .ref (G.1 + a1)), (2, .ref (G.1 + a2)), (3, .int x3)] [] := by
  unfold g_law_1527 at hf
  refine v_aload_n C 1 1 rfl 1528 rfl (by decide +kernel) ?_
  refine v_aload_n C 0 0 rfl 1529 rfl (by decide +kernel) ?_
  refine v_iload_n C 3 3 rfl 1530 rfl (by decide +kernel) ?_
  refine v_iconst C (1) (1) (by decide) 1531 rfl (by decide +kernel) ?_
  refine v_iadd C 1532 rfl (by decide +kernel) ?_
  obtain ⟨hi866, hf⟩ := grd_e hf
  refine v_sld C hX hbl hG hi866 1533 rfl (by decide +kernel) ?_
  obtain ⟨r868, σ867, hcr868, hf⟩ := cl2_e hf
  refine v_cV C 8 rfl (ns_kd_lt hk_a1 (by decide)) hk_a1 (by decide) [.int (xs (ns_ix (x3 + (1 : Int32))))] [] (c_N_status G l σ a1 (xs (ns_ix (x3 + (1 : Int32)))) hcr868) 199 1 tw_964 tw_961 tw_962 tw_963 tw_1 hd_N_status rfl ⟨(Nat.le_of_ble_eq_true rfl), (Nat.le_of_ble_eq_true rfl)⟩ ⟨(Nat.le_of_ble_eq_true rfl), (Nat.le_of_ble_eq_true rfl)⟩ (Nat.le_of_ble_eq_true rfl) rfl 1536 rfl (by decide +kernel) [.int r868] rfl ?_
  refine v_aload_n C 2 2 rfl 1537 rfl (by decide +kernel) ?_
  refine v_aload_n C 0 0 rfl 1538 rfl (by decide +kernel) ?_
  refine v_iload_n C 3 3 rfl 1539 rfl (by decide +kernel) ?_
  refine v_iconst C (1) (1) (by decide) 1540 rfl (by decide +kernel) ?_
  refine v_iadd C 1541 rfl (by decide +kernel) ?_
  obtain ⟨hi869, hf⟩ := grd_e hf
  refine v_sld C hX hbl hG hi869 1542 rfl (by decide +kernel) ?_
  obtain ⟨r871, σ870, hcr871, hf⟩ := cl2_e hf
  refine v_cV C 9 rfl (ns_kd_lt hk_a2 (by decide)) hk_a2 (by decide) [.int (xs (ns_ix (x3 + (1 : Int32))))] [.int r868] (c_M_status G l σ867 a2 (xs (ns_ix (x3 + (1 : Int32)))) hcr871) 202 1 tw_1411 tw_1408 tw_1409 tw_1410 tw_10 hd_M_status rfl ⟨(Nat.le_of_ble_eq_true rfl), (Nat.le_of_ble_eq_true rfl)⟩ ⟨(Nat.le_of_ble_eq_true rfl), (Nat.le_of_ble_eq_true rfl)⟩ (Nat.le_of_ble_eq_true rfl) rfl 1545 rfl (by decide +kernel) [.int r871, .int r868] rfl ?_
  refine v_icmp_eq C 1550 1548 rfl (by decide +kernel) (fun h872 => ?_) (fun h872 => ?_)
  · have hf := ite2_t hf h872
    obtain ⟨z873, hz873, hf⟩ := bnd_e hf
    refine v_iinc C 3 (6) 3 z873 rfl (by rw [hz873]; rfl) [(3, .int z873), (0, .ref b), (1, .ref (G.1 + a1)), (2, .ref (G.1 + a2))] (by decide) rfl 1553 rfl (by decide +kernel) ?_
    refine v_goto C 18 (by decide +kernel) ?_
    refine v_sub [1, 2, 3, 0] rfl ?_
    exact hkh18 σ870 a1 a2 z873 hk_a1 hk_a2 hf
  · have hf := ite2_f hf h872
    cases hf
set_option maxRecDepth 100000 in
theorem t_law_18 (G : ns_G) (l : Launch) {p : Program} {e : Env} {s : State} {m : MethodId} {below : List Frame} {meth : Method} {c : Code} {b L : Nat} {xs : Nat → Int32} (C : ns_Cx G p s m #[Value.ref b] meth c code "NinthStepLaw" 4) (hr : meth.sig.returnType = ret) (hX : va_X b L xs s s.heap) (hbl : b < s.heap.size) (hG : G.1 = s.heap.size) {σ' : ns_St}  : ∀ (f : Nat) (σ : ns_St) (a1 : Nat) (a2 : Nat) (x3 : Int32) (hk_a1 : ns_kd a1 = 8) (hk_a2 : ns_kd a2 = 9), g_law_18 xs L f σ a1 a2 x3 = some ((), σ') → VV G p l e room_1 s m #[Value.ref b] below meth c 4 82 14211 (lw_Z below #[Value.ref b] s) ns_N σ 18 [(0, .ref b), (1, .ref (G.1 + a1)), (2, .ref (G.1 + a2)), (3, .int x3)] [] := by
  intro f
  induction f with
  | zero =>
    intro σ a1 a2 x3 hk_a1 hk_a2 hf
    cases hf
  | succ f ih =>
    intro σ a1 a2 x3 hk_a1 hk_a2 hf
    rw [g_law_18] at hf
    refine v_iload_n C 3 3 rfl 19 rfl (by decide +kernel) ?_
    refine v_aload_n C 0 0 rfl 20 rfl (by decide +kernel) ?_
    refine v_slen C hX hbl hG 21 rfl (by decide +kernel) ?_
    refine v_bipush C (6) (6) (by decide) 23 rfl (by decide +kernel) ?_
    refine v_isub C 24 rfl (by decide +kernel) ?_
    refine v_icmp_gt C 1556 27 rfl (by decide +kernel) (fun h874 => ?_) (fun h874 => ?_)
    · have hf := ite2_t hf h874
      refine v_iconst C (1) (1) (by decide) 1557 rfl (by decide +kernel) ?_
      exact v_lawret C hr hG (by decide +kernel)
    · have hf := ite2_f hf h874
      refine v_aload_n C 0 0 rfl 28 rfl (by decide +kernel) ?_
      refine v_iload_n C 3 3 rfl 29 rfl (by decide +kernel) ?_
      obtain ⟨hi875, hf⟩ := grd_e hf
      refine v_sld C hX hbl hG hi875 30 rfl (by decide +kernel) ?_
      refine v_bipush C (63) (63) (by decide) 32 rfl (by decide +kernel) ?_
      refine v_iand C 33 rfl (by decide +kernel) ?_
      obtain ⟨z876, hz876, hf⟩ := bnd_e hf
      refine v_nmI hz876 ?_
      by_cases h877 : z876 = 0
      · have hf := ite2_t hf h877
        refine v_tswI C (1517) (0) (44) #[(195), (238), (311), (374), (408), (431), (464), (497), (520), (579), (622), (665), (698), (721), (744), (757), (770), (803), (826), (859), (882), (915), (938), (961), (984), (1017), (1060), (1093), (1106), (1139), (1162), (1185), (1208), (1251), (1284), (1327), (1340), (1363), (1396), (1419), (1432), (1445), (1468), (1481), (1494)] 195 228 (0) h877 (by decide) (by decide) (195) (by decide) (by decide) (by decide +kernel) ?_
        exact t_law_228 G l C hr hX hbl hG ih σ a1 a2 x3 hk_a1 hk_a2 hf
      · have hf := ite2_f hf h877
        by_cases h878 : z876 = 1
        · have hf := ite2_t hf h878
          refine v_tswI C (1517) (0) (44) #[(195), (238), (311), (374), (408), (431), (464), (497), (520), (579), (622), (665), (698), (721), (744), (757), (770), (803), (826), (859), (882), (915), (938), (961), (984), (1017), (1060), (1093), (1106), (1139), (1162), (1185), (1208), (1251), (1284), (1327), (1340), (1363), (1396), (1419), (1432), (1445), (1468), (1481), (1494)] 195 271 (1) h878 (by decide) (by decide) (238) (by decide) (by decide) (by decide +kernel) ?_
          exact t_law_271 G l C hr hX hbl hG ih σ a1 a2 x3 hk_a1 hk_a2 hf
        · have hf := ite2_f hf h878
          by_cases h879 : z876 = 2
          · have hf := ite2_t hf h879
            refine v_tswI C (1517) (0) (44) #[(195), (238), (311), (374), (408), (431), (464), (497), (520), (579), (622), (665), (698), (721), (744), (757), (770), (803), (826), (859), (882), (915), (938), (961), (984), (1017), (1060), (1093), (1106), (1139), (1162), (1185), (1208), (1251), (1284), (1327), (1340), (1363), (1396), (1419), (1432), (1445), (1468), (1481), (1494)] 195 344 (2) h879 (by decide) (by decide) (311) (by decide) (by decide) (by decide +kernel) ?_
            exact t_law_344 G l C hr hX hbl hG ih σ a1 a2 x3 hk_a1 hk_a2 hf
          · have hf := ite2_f hf h879
            by_cases h880 : z876 = 3
            · have hf := ite2_t hf h880
              refine v_tswI C (1517) (0) (44) #[(195), (238), (311), (374), (408), (431), (464), (497), (520), (579), (622), (665), (698), (721), (744), (757), (770), (803), (826), (859), (882), (915), (938), (961), (984), (1017), (1060), (1093), (1106), (1139), (1162), (1185), (1208), (1251), (1284), (1327), (1340), (1363), (1396), (1419), (1432), (1445), (1468), (1481), (1494)] 195 407 (3) h880 (by decide) (by decide) (374) (by decide) (by decide) (by decide +kernel) ?_
              exact t_law_407 G l C hr hX hbl hG ih σ a1 a2 x3 hk_a1 hk_a2 hf
            · have hf := ite2_f hf h880
              by_cases h881 : z876 = 4
              · have hf := ite2_t hf h881
                refine v_tswI C (1517) (0) (44) #[(195), (238), (311), (374), (408), (431), (464), (497), (520), (579), (622), (665), (698), (721), (744), (757), (770), (803), (826), (859), (882), (915), (938), (961), (984), (1017), (1060), (1093), (1106), (1139), (1162), (1185), (1208), (1251), (1284), (1327), (1340), (1363), (1396), (1419), (1432), (1445), (1468), (1481), (1494)] 195 441 (4) h881 (by decide) (by decide) (408) (by decide) (by decide) (by decide +kernel) ?_
                exact t_law_441 G l C hr hX hbl hG ih σ a1 a2 x3 hk_a1 hk_a2 hf
              · have hf := ite2_f hf h881
                by_cases h882 : z876 = 5
                · have hf := ite2_t hf h882
                  refine v_tswI C (1517) (0) (44) #[(195), (238), (311), (374), (408), (431), (464), (497), (520), (579), (622), (665), (698), (721), (744), (757), (770), (803), (826), (859), (882), (915), (938), (961), (984), (1017), (1060), (1093), (1106), (1139), (1162), (1185), (1208), (1251), (1284), (1327), (1340), (1363), (1396), (1419), (1432), (1445), (1468), (1481), (1494)] 195 464 (5) h882 (by decide) (by decide) (431) (by decide) (by decide) (by decide +kernel) ?_
                  exact t_law_464 G l C hr hX hbl hG ih σ a1 a2 x3 hk_a1 hk_a2 hf
                · have hf := ite2_f hf h882
                  by_cases h883 : z876 = 6
                  · have hf := ite2_t hf h883
                    refine v_tswI C (1517) (0) (44) #[(195), (238), (311), (374), (408), (431), (464), (497), (520), (579), (622), (665), (698), (721), (744), (757), (770), (803), (826), (859), (882), (915), (938), (961), (984), (1017), (1060), (1093), (1106), (1139), (1162), (1185), (1208), (1251), (1284), (1327), (1340), (1363), (1396), (1419), (1432), (1445), (1468), (1481), (1494)] 195 497 (6) h883 (by decide) (by decide) (464) (by decide) (by decide) (by decide +kernel) ?_
                    exact t_law_497 G l C hr hX hbl hG ih σ a1 a2 x3 hk_a1 hk_a2 hf
                  · have hf := ite2_f hf h883
                    by_cases h884 : z876 = 7
                    · have hf := ite2_t hf h884
                      refine v_tswI C (1517) (0) (44) #[(195), (238), (311), (374), (408), (431), (464), (497), (520), (579), (622), (665), (698), (721), (744), (757), (770), (803), (826), (859), (882), (915), (938), (961), (984), (1017), (1060), (1093), (1106), (1139), (1162), (1185), (1208), (1251), (1284), (1327), (1340), (1363), (1396), (1419), (1432), (1445), (1468), (1481), (1494)] 195 530 (7) h884 (by decide) (by decide) (497) (by decide) (by decide) (by decide +kernel) ?_
                      exact t_law_530 G l C hr hX hbl hG ih σ a1 a2 x3 hk_a1 hk_a2 hf
                    · have hf := ite2_f hf h884
                      by_cases h885 : z876 = 8
                      · have hf := ite2_t hf h885
                        refine v_tswI C (1517) (0) (44) #[(195), (238), (311), (374), (408), (431), (464), (497), (520), (579), (622), (665), (698), (721), (744), (757), (770), (803), (826), (859), (882), (915), (938), (961), (984), (1017), (1060), (1093), (1106), (1139), (1162), (1185), (1208), (1251), (1284), (1327), (1340), (1363), (1396), (1419), (1432), (1445), (1468), (1481), (1494)] 195 553 (8) h885 (by decide) (by decide) (520) (by decide) (by decide) (by decide +kernel) ?_
                        exact t_law_553 G l C hr hX hbl hG ih σ a1 a2 x3 hk_a1 hk_a2 hf
                      · have hf := ite2_f hf h885
                        by_cases h886 : z876 = 9
                        · have hf := ite2_t hf h886
                          refine v_tswI C (1517) (0) (44) #[(195), (238), (311), (374), (408), (431), (464), (497), (520), (579), (622), (665), (698), (721), (744), (757), (770), (803), (826), (859), (882), (915), (938), (961), (984), (1017), (1060), (1093), (1106), (1139), (1162), (1185), (1208), (1251), (1284), (1327), (1340), (1363), (1396), (1419), (1432), (1445), (1468), (1481), (1494)] 195 612 (9) h886 (by decide) (by decide) (579) (by decide) (by decide) (by decide +kernel) ?_
                          exact t_law_612 G l C hr hX hbl hG ih σ a1 a2 x3 hk_a1 hk_a2 hf
                        · have hf := ite2_f hf h886
                          by_cases h887 : z876 = 10
                          · have hf := ite2_t hf h887
                            refine v_tswI C (1517) (0) (44) #[(195), (238), (311), (374), (408), (431), (464), (497), (520), (579), (622), (665), (698), (721), (744), (757), (770), (803), (826), (859), (882), (915), (938), (961), (984), (1017), (1060), (1093), (1106), (1139), (1162), (1185), (1208), (1251), (1284), (1327), (1340), (1363), (1396), (1419), (1432), (1445), (1468), (1481), (1494)] 195 655 (10) h887 (by decide) (by decide) (622) (by decide) (by decide) (by decide +kernel) ?_
                            exact t_law_655 G l C hr hX hbl hG ih σ a1 a2 x3 hk_a1 hk_a2 hf
                          · have hf := ite2_f hf h887
                            by_cases h888 : z876 = 11
                            · have hf := ite2_t hf h888
                              refine v_tswI C (1517) (0) (44) #[(195), (238), (311), (374), (408), (431), (464), (497), (520), (579), (622), (665), (698), (721), (744), (757), (770), (803), (826), (859), (882), (915), (938), (961), (984), (1017), (1060), (1093), (1106), (1139), (1162), (1185), (1208), (1251), (1284), (1327), (1340), (1363), (1396), (1419), (1432), (1445), (1468), (1481), (1494)] 195 698 (11) h888 (by decide) (by decide) (665) (by decide) (by decide) (by decide +kernel) ?_
                              exact t_law_698 G l C hr hX hbl hG ih σ a1 a2 x3 hk_a1 hk_a2 hf
                            · have hf := ite2_f hf h888
                              by_cases h889 : z876 = 12
                              · have hf := ite2_t hf h889
                                refine v_tswI C (1517) (0) (44) #[(195), (238), (311), (374), (408), (431), (464), (497), (520), (579), (622), (665), (698), (721), (744), (757), (770), (803), (826), (859), (882), (915), (938), (961), (984), (1017), (1060), (1093), (1106), (1139), (1162), (1185), (1208), (1251), (1284), (1327), (1340), (1363), (1396), (1419), (1432), (1445), (1468), (1481), (1494)] 195 731 (12) h889 (by decide) (by decide) (698) (by decide) (by decide) (by decide +kernel) ?_
                                exact t_law_731 G l C hr hX hbl hG ih σ a1 a2 x3 hk_a1 hk_a2 hf
                              · have hf := ite2_f hf h889
                                by_cases h890 : z876 = 13
                                · have hf := ite2_t hf h890
                                  refine v_tswI C (1517) (0) (44) #[(195), (238), (311), (374), (408), (431), (464), (497), (520), (579), (622), (665), (698), (721), (744), (757), (770), (803), (826), (859), (882), (915), (938), (961), (984), (1017), (1060), (1093), (1106), (1139), (1162), (1185), (1208), (1251), (1284), (1327), (1340), (1363), (1396), (1419), (1432), (1445), (1468), (1481), (1494)] 195 754 (13) h890 (by decide) (by decide) (721) (by decide) (by decide) (by decide +kernel) ?_
                                  exact t_law_754 G l C hr hX hbl hG ih σ a1 a2 x3 hk_a1 hk_a2 hf
                                · have hf := ite2_f hf h890
                                  by_cases h891 : z876 = 14
                                  · have hf := ite2_t hf h891
                                    refine v_tswI C (1517) (0) (44) #[(195), (238), (311), (374), (408), (431), (464), (497), (520), (579), (622), (665), (698), (721), (744), (757), (770), (803), (826), (859), (882), (915), (938), (961), (984), (1017), (1060), (1093), (1106), (1139), (1162), (1185), (1208), (1251), (1284), (1327), (1340), (1363), (1396), (1419), (1432), (1445), (1468), (1481), (1494)] 195 777 (14) h891 (by decide) (by decide) (744) (by decide) (by decide) (by decide +kernel) ?_
                                    exact t_law_777 G l C hr hX hbl hG ih σ a1 a2 x3 hk_a1 hk_a2 hf
                                  · have hf := ite2_f hf h891
                                    by_cases h892 : z876 = 15
                                    · have hf := ite2_t hf h892
                                      refine v_tswI C (1517) (0) (44) #[(195), (238), (311), (374), (408), (431), (464), (497), (520), (579), (622), (665), (698), (721), (744), (757), (770), (803), (826), (859), (882), (915), (938), (961), (984), (1017), (1060), (1093), (1106), (1139), (1162), (1185), (1208), (1251), (1284), (1327), (1340), (1363), (1396), (1419), (1432), (1445), (1468), (1481), (1494)] 195 790 (15) h892 (by decide) (by decide) (757) (by decide) (by decide) (by decide +kernel) ?_
                                      exact t_law_790 G l C hr hX hbl hG ih σ a1 a2 x3 hk_a1 hk_a2 hf
                                    · have hf := ite2_f hf h892
                                      by_cases h893 : z876 = 16
                                      · have hf := ite2_t hf h893
                                        refine v_tswI C (1517) (0) (44) #[(195), (238), (311), (374), (408), (431), (464), (497), (520), (579), (622), (665), (698), (721), (744), (757), (770), (803), (826), (859), (882), (915), (938), (961), (984), (1017), (1060), (1093), (1106), (1139), (1162), (1185), (1208), (1251), (1284), (1327), (1340), (1363), (1396), (1419), (1432), (1445), (1468), (1481), (1494)] 195 803 (16) h893 (by decide) (by decide) (770) (by decide) (by decide) (by decide +kernel) ?_
                                        exact t_law_803 G l C hr hX hbl hG ih σ a1 a2 x3 hk_a1 hk_a2 hf
                                      · have hf := ite2_f hf h893
                                        by_cases h894 : z876 = 17
                                        · have hf := ite2_t hf h894
                                          refine v_tswI C (1517) (0) (44) #[(195), (238), (311), (374), (408), (431), (464), (497), (520), (579), (622), (665), (698), (721), (744), (757), (770), (803), (826), (859), (882), (915), (938), (961), (984), (1017), (1060), (1093), (1106), (1139), (1162), (1185), (1208), (1251), (1284), (1327), (1340), (1363), (1396), (1419), (1432), (1445), (1468), (1481), (1494)] 195 836 (17) h894 (by decide) (by decide) (803) (by decide) (by decide) (by decide +kernel) ?_
                                          exact t_law_836 G l C hr hX hbl hG ih σ a1 a2 x3 hk_a1 hk_a2 hf
                                        · have hf := ite2_f hf h894
                                          by_cases h895 : z876 = 18
                                          · have hf := ite2_t hf h895
                                            refine v_tswI C (1517) (0) (44) #[(195), (238), (311), (374), (408), (431), (464), (497), (520), (579), (622), (665), (698), (721), (744), (757), (770), (803), (826), (859), (882), (915), (938), (961), (984), (1017), (1060), (1093), (1106), (1139), (1162), (1185), (1208), (1251), (1284), (1327), (1340), (1363), (1396), (1419), (1432), (1445), (1468), (1481), (1494)] 195 859 (18) h895 (by decide) (by decide) (826) (by decide) (by decide) (by decide +kernel) ?_
                                            exact t_law_859 G l C hr hX hbl hG ih σ a1 a2 x3 hk_a1 hk_a2 hf
                                          · have hf := ite2_f hf h895
                                            by_cases h896 : z876 = 19
                                            · have hf := ite2_t hf h896
                                              refine v_tswI C (1517) (0) (44) #[(195), (238), (311), (374), (408), (431), (464), (497), (520), (579), (622), (665), (698), (721), (744), (757), (770), (803), (826), (859), (882), (915), (938), (961), (984), (1017), (1060), (1093), (1106), (1139), (1162), (1185), (1208), (1251), (1284), (1327), (1340), (1363), (1396), (1419), (1432), (1445), (1468), (1481), (1494)] 195 892 (19) h896 (by decide) (by decide) (859) (by decide) (by decide) (by decide +kernel) ?_
                                              exact t_law_892 G l C hr hX hbl hG ih σ a1 a2 x3 hk_a1 hk_a2 hf
                                            · have hf := ite2_f hf h896
                                              by_cases h897 : z876 = 20
                                              · have hf := ite2_t hf h897
                                                refine v_tswI C (1517) (0) (44) #[(195), (238), (311), (374), (408), (431), (464), (497), (520), (579), (622), (665), (698), (721), (744), (757), (770), (803), (826), (859), (882), (915), (938), (961), (984), (1017), (1060), (1093), (1106), (1139), (1162), (1185), (1208), (1251), (1284), (1327), (1340), (1363), (1396), (1419), (1432), (1445), (1468), (1481), (1494)] 195 915 (20) h897 (by decide) (by decide) (882) (by decide) (by decide) (by decide +kernel) ?_
                                                exact t_law_915 G l C hr hX hbl hG ih σ a1 a2 x3 hk_a1 hk_a2 hf
                                              · have hf := ite2_f hf h897
                                                by_cases h898 : z876 = 21
                                                · have hf := ite2_t hf h898
                                                  refine v_tswI C (1517) (0) (44) #[(195), (238), (311), (374), (408), (431), (464), (497), (520), (579), (622), (665), (698), (721), (744), (757), (770), (803), (826), (859), (882), (915), (938), (961), (984), (1017), (1060), (1093), (1106), (1139), (1162), (1185), (1208), (1251), (1284), (1327), (1340), (1363), (1396), (1419), (1432), (1445), (1468), (1481), (1494)] 195 948 (21) h898 (by decide) (by decide) (915) (by decide) (by decide) (by decide +kernel) ?_
                                                  exact t_law_948 G l C hr hX hbl hG ih σ a1 a2 x3 hk_a1 hk_a2 hf
                                                · have hf := ite2_f hf h898
                                                  by_cases h899 : z876 = 22
                                                  · have hf := ite2_t hf h899
                                                    refine v_tswI C (1517) (0) (44) #[(195), (238), (311), (374), (408), (431), (464), (497), (520), (579), (622), (665), (698), (721), (744), (757), (770), (803), (826), (859), (882), (915), (938), (961), (984), (1017), (1060), (1093), (1106), (1139), (1162), (1185), (1208), (1251), (1284), (1327), (1340), (1363), (1396), (1419), (1432), (1445), (1468), (1481), (1494)] 195 971 (22) h899 (by decide) (by decide) (938) (by decide) (by decide) (by decide +kernel) ?_
                                                    exact t_law_971 G l C hr hX hbl hG ih σ a1 a2 x3 hk_a1 hk_a2 hf
                                                  · have hf := ite2_f hf h899
                                                    by_cases h900 : z876 = 23
                                                    · have hf := ite2_t hf h900
                                                      refine v_tswI C (1517) (0) (44) #[(195), (238), (311), (374), (408), (431), (464), (497), (520), (579), (622), (665), (698), (721), (744), (757), (770), (803), (826), (859), (882), (915), (938), (961), (984), (1017), (1060), (1093), (1106), (1139), (1162), (1185), (1208), (1251), (1284), (1327), (1340), (1363), (1396), (1419), (1432), (1445), (1468), (1481), (1494)] 195 994 (23) h900 (by decide) (by decide) (961) (by decide) (by decide) (by decide +kernel) ?_
                                                      exact t_law_994 G l C hr hX hbl hG ih σ a1 a2 x3 hk_a1 hk_a2 hf
                                                    · have hf := ite2_f hf h900
                                                      by_cases h901 : z876 = 24
                                                      · have hf := ite2_t hf h901
                                                        refine v_tswI C (1517) (0) (44) #[(195), (238), (311), (374), (408), (431), (464), (497), (520), (579), (622), (665), (698), (721), (744), (757), (770), (803), (826), (859), (882), (915), (938), (961), (984), (1017), (1060), (1093), (1106), (1139), (1162), (1185), (1208), (1251), (1284), (1327), (1340), (1363), (1396), (1419), (1432), (1445), (1468), (1481), (1494)] 195 1017 (24) h901 (by decide) (by decide) (984) (by decide) (by decide) (by decide +kernel) ?_
                                                        exact t_law_1017 G l C hr hX hbl hG ih σ a1 a2 x3 hk_a1 hk_a2 hf
                                                      · have hf := ite2_f hf h901
                                                        by_cases h902 : z876 = 25
                                                        · have hf := ite2_t hf h902
                                                          refine v_tswI C (1517) (0) (44) #[(195), (238), (311), (374), (408), (431), (464), (497), (520), (579), (622), (665), (698), (721), (744), (757), (770), (803), (826), (859), (882), (915), (938), (961), (984), (1017), (1060), (1093), (1106), (1139), (1162), (1185), (1208), (1251), (1284), (1327), (1340), (1363), (1396), (1419), (1432), (1445), (1468), (1481), (1494)] 195 1050 (25) h902 (by decide) (by decide) (1017) (by decide) (by decide) (by decide +kernel) ?_
                                                          exact t_law_1050 G l C hr hX hbl hG ih σ a1 a2 x3 hk_a1 hk_a2 hf
                                                        · have hf := ite2_f hf h902
                                                          by_cases h903 : z876 = 26
                                                          · have hf := ite2_t hf h903
                                                            refine v_tswI C (1517) (0) (44) #[(195), (238), (311), (374), (408), (431), (464), (497), (520), (579), (622), (665), (698), (721), (744), (757), (770), (803), (826), (859), (882), (915), (938), (961), (984), (1017), (1060), (1093), (1106), (1139), (1162), (1185), (1208), (1251), (1284), (1327), (1340), (1363), (1396), (1419), (1432), (1445), (1468), (1481), (1494)] 195 1093 (26) h903 (by decide) (by decide) (1060) (by decide) (by decide) (by decide +kernel) ?_
                                                            exact t_law_1093 G l C hr hX hbl hG ih σ a1 a2 x3 hk_a1 hk_a2 hf
                                                          · have hf := ite2_f hf h903
                                                            by_cases h904 : z876 = 27
                                                            · have hf := ite2_t hf h904
                                                              refine v_tswI C (1517) (0) (44) #[(195), (238), (311), (374), (408), (431), (464), (497), (520), (579), (622), (665), (698), (721), (744), (757), (770), (803), (826), (859), (882), (915), (938), (961), (984), (1017), (1060), (1093), (1106), (1139), (1162), (1185), (1208), (1251), (1284), (1327), (1340), (1363), (1396), (1419), (1432), (1445), (1468), (1481), (1494)] 195 1126 (27) h904 (by decide) (by decide) (1093) (by decide) (by decide) (by decide +kernel) ?_
                                                              exact t_law_1126 G l C hr hX hbl hG ih σ a1 a2 x3 hk_a1 hk_a2 hf
                                                            · have hf := ite2_f hf h904
                                                              by_cases h905 : z876 = 28
                                                              · have hf := ite2_t hf h905
                                                                refine v_tswI C (1517) (0) (44) #[(195), (238), (311), (374), (408), (431), (464), (497), (520), (579), (622), (665), (698), (721), (744), (757), (770), (803), (826), (859), (882), (915), (938), (961), (984), (1017), (1060), (1093), (1106), (1139), (1162), (1185), (1208), (1251), (1284), (1327), (1340), (1363), (1396), (1419), (1432), (1445), (1468), (1481), (1494)] 195 1139 (28) h905 (by decide) (by decide) (1106) (by decide) (by decide) (by decide +kernel) ?_
                                                                exact t_law_1139 G l C hr hX hbl hG ih σ a1 a2 x3 hk_a1 hk_a2 hf
                                                              · have hf := ite2_f hf h905
                                                                by_cases h906 : z876 = 29
                                                                · have hf := ite2_t hf h906
                                                                  refine v_tswI C (1517) (0) (44) #[(195), (238), (311), (374), (408), (431), (464), (497), (520), (579), (622), (665), (698), (721), (744), (757), (770), (803), (826), (859), (882), (915), (938), (961), (984), (1017), (1060), (1093), (1106), (1139), (1162), (1185), (1208), (1251), (1284), (1327), (1340), (1363), (1396), (1419), (1432), (1445), (1468), (1481), (1494)] 195 1172 (29) h906 (by decide) (by decide) (1139) (by decide) (by decide) (by decide +kernel) ?_
                                                                  exact t_law_1172 G l C hr hX hbl hG ih σ a1 a2 x3 hk_a1 hk_a2 hf
                                                                · have hf := ite2_f hf h906
                                                                  by_cases h907 : z876 = 30
                                                                  · have hf := ite2_t hf h907
                                                                    refine v_tswI C (1517) (0) (44) #[(195), (238), (311), (374), (408), (431), (464), (497), (520), (579), (622), (665), (698), (721), (744), (757), (770), (803), (826), (859), (882), (915), (938), (961), (984), (1017), (1060), (1093), (1106), (1139), (1162), (1185), (1208), (1251), (1284), (1327), (1340), (1363), (1396), (1419), (1432), (1445), (1468), (1481), (1494)] 195 1195 (30) h907 (by decide) (by decide) (1162) (by decide) (by decide) (by decide +kernel) ?_
                                                                    exact t_law_1195 G l C hr hX hbl hG ih σ a1 a2 x3 hk_a1 hk_a2 hf
                                                                  · have hf := ite2_f hf h907
                                                                    by_cases h908 : z876 = 31
                                                                    · have hf := ite2_t hf h908
                                                                      refine v_tswI C (1517) (0) (44) #[(195), (238), (311), (374), (408), (431), (464), (497), (520), (579), (622), (665), (698), (721), (744), (757), (770), (803), (826), (859), (882), (915), (938), (961), (984), (1017), (1060), (1093), (1106), (1139), (1162), (1185), (1208), (1251), (1284), (1327), (1340), (1363), (1396), (1419), (1432), (1445), (1468), (1481), (1494)] 195 1218 (31) h908 (by decide) (by decide) (1185) (by decide) (by decide) (by decide +kernel) ?_
                                                                      exact t_law_1218 G l C hr hX hbl hG ih σ a1 a2 x3 hk_a1 hk_a2 hf
                                                                    · have hf := ite2_f hf h908
                                                                      by_cases h909 : z876 = 32
                                                                      · have hf := ite2_t hf h909
                                                                        refine v_tswI C (1517) (0) (44) #[(195), (238), (311), (374), (408), (431), (464), (497), (520), (579), (622), (665), (698), (721), (744), (757), (770), (803), (826), (859), (882), (915), (938), (961), (984), (1017), (1060), (1093), (1106), (1139), (1162), (1185), (1208), (1251), (1284), (1327), (1340), (1363), (1396), (1419), (1432), (1445), (1468), (1481), (1494)] 195 1241 (32) h909 (by decide) (by decide) (1208) (by decide) (by decide) (by decide +kernel) ?_
                                                                        exact t_law_1241 G l C hr hX hbl hG ih σ a1 a2 x3 hk_a1 hk_a2 hf
                                                                      · have hf := ite2_f hf h909
                                                                        by_cases h910 : z876 = 33
                                                                        · have hf := ite2_t hf h910
                                                                          refine v_tswI C (1517) (0) (44) #[(195), (238), (311), (374), (408), (431), (464), (497), (520), (579), (622), (665), (698), (721), (744), (757), (770), (803), (826), (859), (882), (915), (938), (961), (984), (1017), (1060), (1093), (1106), (1139), (1162), (1185), (1208), (1251), (1284), (1327), (1340), (1363), (1396), (1419), (1432), (1445), (1468), (1481), (1494)] 195 1284 (33) h910 (by decide) (by decide) (1251) (by decide) (by decide) (by decide +kernel) ?_
                                                                          exact t_law_1284 G l C hr hX hbl hG ih σ a1 a2 x3 hk_a1 hk_a2 hf
                                                                        · have hf := ite2_f hf h910
                                                                          by_cases h911 : z876 = 34
                                                                          · have hf := ite2_t hf h911
                                                                            refine v_tswI C (1517) (0) (44) #[(195), (238), (311), (374), (408), (431), (464), (497), (520), (579), (622), (665), (698), (721), (744), (757), (770), (803), (826), (859), (882), (915), (938), (961), (984), (1017), (1060), (1093), (1106), (1139), (1162), (1185), (1208), (1251), (1284), (1327), (1340), (1363), (1396), (1419), (1432), (1445), (1468), (1481), (1494)] 195 1317 (34) h911 (by decide) (by decide) (1284) (by decide) (by decide) (by decide +kernel) ?_
                                                                            exact t_law_1317 G l C hr hX hbl hG ih σ a1 a2 x3 hk_a1 hk_a2 hf
                                                                          · have hf := ite2_f hf h911
                                                                            by_cases h912 : z876 = 35
                                                                            · have hf := ite2_t hf h912
                                                                              refine v_tswI C (1517) (0) (44) #[(195), (238), (311), (374), (408), (431), (464), (497), (520), (579), (622), (665), (698), (721), (744), (757), (770), (803), (826), (859), (882), (915), (938), (961), (984), (1017), (1060), (1093), (1106), (1139), (1162), (1185), (1208), (1251), (1284), (1327), (1340), (1363), (1396), (1419), (1432), (1445), (1468), (1481), (1494)] 195 1360 (35) h912 (by decide) (by decide) (1327) (by decide) (by decide) (by decide +kernel) ?_
                                                                              exact t_law_1360 G l C hr hX hbl hG ih σ a1 a2 x3 hk_a1 hk_a2 hf
                                                                            · have hf := ite2_f hf h912
                                                                              by_cases h913 : z876 = 36
                                                                              · have hf := ite2_t hf h913
                                                                                refine v_tswI C (1517) (0) (44) #[(195), (238), (311), (374), (408), (431), (464), (497), (520), (579), (622), (665), (698), (721), (744), (757), (770), (803), (826), (859), (882), (915), (938), (961), (984), (1017), (1060), (1093), (1106), (1139), (1162), (1185), (1208), (1251), (1284), (1327), (1340), (1363), (1396), (1419), (1432), (1445), (1468), (1481), (1494)] 195 1373 (36) h913 (by decide) (by decide) (1340) (by decide) (by decide) (by decide +kernel) ?_
                                                                                exact t_law_1373 G l C hr hX hbl hG ih σ a1 a2 x3 hk_a1 hk_a2 hf
                                                                              · have hf := ite2_f hf h913
                                                                                by_cases h914 : z876 = 37
                                                                                · have hf := ite2_t hf h914
                                                                                  refine v_tswI C (1517) (0) (44) #[(195), (238), (311), (374), (408), (431), (464), (497), (520), (579), (622), (665), (698), (721), (744), (757), (770), (803), (826), (859), (882), (915), (938), (961), (984), (1017), (1060), (1093), (1106), (1139), (1162), (1185), (1208), (1251), (1284), (1327), (1340), (1363), (1396), (1419), (1432), (1445), (1468), (1481), (1494)] 195 1396 (37) h914 (by decide) (by decide) (1363) (by decide) (by decide) (by decide +kernel) ?_
                                                                                  exact t_law_1396 G l C hr hX hbl hG ih σ a1 a2 x3 hk_a1 hk_a2 hf
                                                                                · have hf := ite2_f hf h914
                                                                                  by_cases h915 : z876 = 38
                                                                                  · have hf := ite2_t hf h915
                                                                                    refine v_tswI C (1517) (0) (44) #[(195), (238), (311), (374), (408), (431), (464), (497), (520), (579), (622), (665), (698), (721), (744), (757), (770), (803), (826), (859), (882), (915), (938), (961), (984), (1017), (1060), (1093), (1106), (1139), (1162), (1185), (1208), (1251), (1284), (1327), (1340), (1363), (1396), (1419), (1432), (1445), (1468), (1481), (1494)] 195 1429 (38) h915 (by decide) (by decide) (1396) (by decide) (by decide) (by decide +kernel) ?_
                                                                                    exact t_law_1429 G l C hr hX hbl hG ih σ a1 a2 x3 hk_a1 hk_a2 hf
                                                                                  · have hf := ite2_f hf h915
                                                                                    by_cases h916 : z876 = 39
                                                                                    · have hf := ite2_t hf h916
                                                                                      refine v_tswI C (1517) (0) (44) #[(195), (238), (311), (374), (408), (431), (464), (497), (520), (579), (622), (665), (698), (721), (744), (757), (770), (803), (826), (859), (882), (915), (938), (961), (984), (1017), (1060), (1093), (1106), (1139), (1162), (1185), (1208), (1251), (1284), (1327), (1340), (1363), (1396), (1419), (1432), (1445), (1468), (1481), (1494)] 195 1452 (39) h916 (by decide) (by decide) (1419) (by decide) (by decide) (by decide +kernel) ?_
                                                                                      exact t_law_1452 G l C hr hX hbl hG ih σ a1 a2 x3 hk_a1 hk_a2 hf
                                                                                    · have hf := ite2_f hf h916
                                                                                      by_cases h917 : z876 = 40
                                                                                      · have hf := ite2_t hf h917
                                                                                        refine v_tswI C (1517) (0) (44) #[(195), (238), (311), (374), (408), (431), (464), (497), (520), (579), (622), (665), (698), (721), (744), (757), (770), (803), (826), (859), (882), (915), (938), (961), (984), (1017), (1060), (1093), (1106), (1139), (1162), (1185), (1208), (1251), (1284), (1327), (1340), (1363), (1396), (1419), (1432), (1445), (1468), (1481), (1494)] 195 1465 (40) h917 (by decide) (by decide) (1432) (by decide) (by decide) (by decide +kernel) ?_
                                                                                        exact t_law_1465 G l C hr hX hbl hG ih σ a1 a2 x3 hk_a1 hk_a2 hf
                                                                                      · have hf := ite2_f hf h917
                                                                                        by_cases h918 : z876 = 41
                                                                                        · have hf := ite2_t hf h918
                                                                                          refine v_tswI C (1517) (0) (44) #[(195), (238), (311), (374), (408), (431), (464), (497), (520), (579), (622), (665), (698), (721), (744), (757), (770), (803), (826), (859), (882), (915), (938), (961), (984), (1017), (1060), (1093), (1106), (1139), (1162), (1185), (1208), (1251), (1284), (1327), (1340), (1363), (1396), (1419), (1432), (1445), (1468), (1481), (1494)] 195 1478 (41) h918 (by decide) (by decide) (1445) (by decide) (by decide) (by decide +kernel) ?_
                                                                                          exact t_law_1478 G l C hr hX hbl hG ih σ a1 a2 x3 hk_a1 hk_a2 hf
                                                                                        · have hf := ite2_f hf h918
                                                                                          by_cases h919 : z876 = 42
                                                                                          · have hf := ite2_t hf h919
                                                                                            refine v_tswI C (1517) (0) (44) #[(195), (238), (311), (374), (408), (431), (464), (497), (520), (579), (622), (665), (698), (721), (744), (757), (770), (803), (826), (859), (882), (915), (938), (961), (984), (1017), (1060), (1093), (1106), (1139), (1162), (1185), (1208), (1251), (1284), (1327), (1340), (1363), (1396), (1419), (1432), (1445), (1468), (1481), (1494)] 195 1501 (42) h919 (by decide) (by decide) (1468) (by decide) (by decide) (by decide +kernel) ?_
                                                                                            exact t_law_1501 G l C hr hX hbl hG ih σ a1 a2 x3 hk_a1 hk_a2 hf
                                                                                          · have hf := ite2_f hf h919
                                                                                            by_cases h920 : z876 = 43
                                                                                            · have hf := ite2_t hf h920
                                                                                              refine v_tswI C (1517) (0) (44) #[(195), (238), (311), (374), (408), (431), (464), (497), (520), (579), (622), (665), (698), (721), (744), (757), (770), (803), (826), (859), (882), (915), (938), (961), (984), (1017), (1060), (1093), (1106), (1139), (1162), (1185), (1208), (1251), (1284), (1327), (1340), (1363), (1396), (1419), (1432), (1445), (1468), (1481), (1494)] 195 1514 (43) h920 (by decide) (by decide) (1481) (by decide) (by decide) (by decide +kernel) ?_
                                                                                              exact t_law_1514 G l C hr hX hbl hG ih σ a1 a2 x3 hk_a1 hk_a2 hf
                                                                                            · have hf := ite2_f hf h920
                                                                                              by_cases h921 : z876 = 44
                                                                                              · have hf := ite2_t hf h921
                                                                                                refine v_tswI C (1517) (0) (44) #[(195), (238), (311), (374), (408), (431), (464), (497), (520), (579), (622), (665), (698), (721), (744), (757), (770), (803), (826), (859), (882), (915), (938), (961), (984), (1017), (1060), (1093), (1106), (1139), (1162), (1185), (1208), (1251), (1284), (1327), (1340), (1363), (1396), (1419), (1432), (1445), (1468), (1481), (1494)] 195 1527 (44) h921 (by decide) (by decide) (1494) (by decide) (by decide) (by decide +kernel) ?_
                                                                                                exact t_law_1527 G l C hr hX hbl hG ih σ a1 a2 x3 hk_a1 hk_a2 hf
                                                                                              · have hf := ite2_f hf h921
                                                                                                refine v_tswO C (1517) (0) (44) #[(195), (238), (311), (374), (408), (431), (464), (497), (520), (579), (622), (665), (698), (721), (744), (757), (770), (803), (826), (859), (882), (915), (938), (961), (984), (1017), (1060), (1093), (1106), (1139), (1162), (1185), (1208), (1251), (1284), (1327), (1340), (1363), (1396), (1419), (1432), (1445), (1468), (1481), (1494)] 195 1550 (ns_out z876 (0) (44) (fun k h1 h2 => by
                                                                                                  have h3 : k = 0 ∨ k = 1 ∨ k = 2 ∨ k = 3 ∨ k = 4 ∨ k = 5 ∨ k = 6 ∨ k = 7 ∨ k = 8 ∨ k = 9 ∨ k = 10 ∨ k = 11 ∨ k = 12 ∨ k = 13 ∨ k = 14 ∨ k = 15 ∨ k = 16 ∨ k = 17 ∨ k = 18 ∨ k = 19 ∨ k = 20 ∨ k = 21 ∨ k = 22 ∨ k = 23 ∨ k = 24 ∨ k = 25 ∨ k = 26 ∨ k = 27 ∨ k = 28 ∨ k = 29 ∨ k = 30 ∨ k = 31 ∨ k = 32 ∨ k = 33 ∨ k = 34 ∨ k = 35 ∨ k = 36 ∨ k = 37 ∨ k = 38 ∨ k = 39 ∨ k = 40 ∨ k = 41 ∨ k = 42 ∨ k = 43 ∨ k = 44 := by omega
                                                                                                  rcases h3 with rfl | rfl | rfl | rfl | rfl | rfl | rfl | rfl | rfl | rfl | rfl | rfl | rfl | rfl | rfl | rfl | rfl | rfl | rfl | rfl | rfl | rfl | rfl | rfl | rfl | rfl | rfl | rfl | rfl | rfl | rfl | rfl | rfl | rfl | rfl | rfl | rfl | rfl | rfl | rfl | rfl | rfl | rfl | rfl | rfl
                                                                                                  · exact h877
                                                                                                  · exact h878
                                                                                                  · exact h879
                                                                                                  · exact h880
                                                                                                  · exact h881
                                                                                                  · exact h882
                                                                                                  · exact h883
                                                                                                  · exact h884
                                                                                                  · exact h885
                                                                                                  · exact h886
                                                                                                  · exact h887
                                                                                                  · exact h888
                                                                                                  · exact h889
                                                                                                  · exact h890
                                                                                                  · exact h891
                                                                                                  · exact h892
                                                                                                  · exact h893
                                                                                                  · exact h894
                                                                                                  · exact h895
                                                                                                  · exact h896
                                                                                                  · exact h897
                                                                                                  · exact h898
                                                                                                  · exact h899
                                                                                                  · exact h900
                                                                                                  · exact h901
                                                                                                  · exact h902
                                                                                                  · exact h903
                                                                                                  · exact h904
                                                                                                  · exact h905
                                                                                                  · exact h906
                                                                                                  · exact h907
                                                                                                  · exact h908
                                                                                                  · exact h909
                                                                                                  · exact h910
                                                                                                  · exact h911
                                                                                                  · exact h912
                                                                                                  · exact h913
                                                                                                  · exact h914
                                                                                                  · exact h915
                                                                                                  · exact h916
                                                                                                  · exact h917
                                                                                                  · exact h918
                                                                                                  · exact h919
                                                                                                  · exact h920
                                                                                                  · exact h921)) (by decide) (by decide +kernel) ?_
                                                                                                obtain ⟨z922, hz922, hf⟩ := bnd_e hf
                                                                                                refine v_iinc C 3 (6) 3 z922 rfl (by rw [hz922]; rfl) [(3, .int z922), (0, .ref b), (1, .ref (G.1 + a1)), (2, .ref (G.1 + a2))] (by decide) rfl 1553 rfl (by decide +kernel) ?_
                                                                                                refine v_goto C 18 (by decide +kernel) ?_
                                                                                                refine v_sub [1, 2, 3, 0] rfl ?_
                                                                                                exact ih σ a1 a2 z922 hk_a1 hk_a2 hf
