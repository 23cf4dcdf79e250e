def f_L_law_L18 (N : Nat) (L : Nat) (xs : Nat → Int32) : Nat → Int32 → qN → Option ((Int32 × qN) ⊕ (qN))
  | 0, _, _ => none
  | n + 1, l3, h =>
    if ((Int32.ofNat L) - (6 : Int32)) < l3 then
      some (.inr h)
    else
      if l3 < 0 ∨ L ≤ l3.toNatClampNeg then none else
      if ((xs l3.toNatClampNeg) &&& (63 : Int32)) = (0 : Int32) then
        if (l3 + (1 : Int32)) < 0 ∨ L ≤ (l3 + (1 : Int32)).toNatClampNeg then none else
        if (l3 + (2 : Int32)) < 0 ∨ L ≤ (l3 + (2 : Int32)).toNatClampNeg then none else
        if (l3 + (3 : Int32)) < 0 ∨ L ≤ (l3 + (3 : Int32)).toNatClampNeg then none else
        qbind (f_X5_person (xs (l3 + (1 : Int32)).toNatClampNeg) (xs (l3 + (2 : Int32)).toNatClampNeg) (xs (l3 + (3 : Int32)).toNatClampNeg) h) fun (x2460, h2459) =>
        if (l3 + (1 : Int32)) < 0 ∨ L ≤ (l3 + (1 : Int32)).toNatClampNeg then none else
        if (l3 + (2 : Int32)) < 0 ∨ L ≤ (l3 + (2 : Int32)).toNatClampNeg then none else
        if (l3 + (3 : Int32)) < 0 ∨ L ≤ (l3 + (3 : Int32)).toNatClampNeg then none else
        qbind (f_X6_person (xs (l3 + (1 : Int32)).toNatClampNeg) (xs (l3 + (2 : Int32)).toNatClampNeg) (xs (l3 + (3 : Int32)).toNatClampNeg) h2459) fun (x2466, h2465) =>
        if x2460 = x2466 then
          f_L_law_L18 N L xs n (l3 + (6 : Int32)) h2465
        else
          some (.inl ((0 : Int32), h2465))
      else
      if ((xs l3.toNatClampNeg) &&& (63 : Int32)) = (1 : Int32) then
        if (l3 + (1 : Int32)) < 0 ∨ L ≤ (l3 + (1 : Int32)).toNatClampNeg then none else
        if (l3 + (2 : Int32)) < 0 ∨ L ≤ (l3 + (2 : Int32)).toNatClampNeg then none else
        qbind (f_X5_rule N (xs (l3 + (1 : Int32)).toNatClampNeg) (xs (l3 + (2 : Int32)).toNatClampNeg) h) fun (x2473, h2472) =>
        if (l3 + (1 : Int32)) < 0 ∨ L ≤ (l3 + (1 : Int32)).toNatClampNeg then none else
        if (l3 + (2 : Int32)) < 0 ∨ L ≤ (l3 + (2 : Int32)).toNatClampNeg then none else
        qbind (f_X6_rule N (xs (l3 + (1 : Int32)).toNatClampNeg) (xs (l3 + (2 : Int32)).toNatClampNeg) h2472) fun (x2478, h2477) =>
        if x2473 = x2478 then
          f_L_law_L18 N L xs n (l3 + (6 : Int32)) h2477
        else
          some (.inl ((0 : Int32), h2477))
      else
      if ((xs l3.toNatClampNeg) &&& (63 : Int32)) = (2 : Int32) then
        if (l3 + (1 : Int32)) < 0 ∨ L ≤ (l3 + (1 : Int32)).toNatClampNeg then none else
        qbind (f_X5_thing N (xs (l3 + (1 : Int32)).toNatClampNeg) h) fun (x2484, h2483) =>
        if (l3 + (1 : Int32)) < 0 ∨ L ≤ (l3 + (1 : Int32)).toNatClampNeg then none else
        qbind (f_X6_thing N (xs (l3 + (1 : Int32)).toNatClampNeg) h2483) fun (x2488, h2487) =>
        if x2484 = x2488 then
          f_L_law_L18 N L xs n (l3 + (6 : Int32)) h2487
        else
          some (.inl ((0 : Int32), h2487))
      else
      if ((xs l3.toNatClampNeg) &&& (63 : Int32)) = (3 : Int32) then
        if (l3 + (1 : Int32)) < 0 ∨ L ≤ (l3 + (1 : Int32)).toNatClampNeg then none else
        if (l3 + (2 : Int32)) < 0 ∨ L ≤ (l3 + (2 : Int32)).toNatClampNeg then none else
        if (l3 + (3 : Int32)) < 0 ∨ L ≤ (l3 + (3 : Int32)).toNatClampNeg then none else
        qbind (f_X5_worth (xs (l3 + (1 : Int32)).toNatClampNeg) (xs (l3 + (2 : Int32)).toNatClampNeg) (xs (l3 + (3 : Int32)).toNatClampNeg) h) fun (x2496, h2495) =>
        if (l3 + (1 : Int32)) < 0 ∨ L ≤ (l3 + (1 : Int32)).toNatClampNeg then none else
        if (l3 + (2 : Int32)) < 0 ∨ L ≤ (l3 + (2 : Int32)).toNatClampNeg then none else
        if (l3 + (3 : Int32)) < 0 ∨ L ≤ (l3 + (3 : Int32)).toNatClampNeg then none else
        qbind (f_X6_worth (xs (l3 + (1 : Int32)).toNatClampNeg) (xs (l3 + (2 : Int32)).toNatClampNeg) (xs (l3 + (3 : Int32)).toNatClampNeg) h2495) fun (x2502, h2501) =>
        if x2496 = x2502 then
          f_L_law_L18 N L xs n (l3 + (6 : Int32)) h2501
        else
          some (.inl ((0 : Int32), h2501))
      else
      if ((xs l3.toNatClampNeg) &&& (63 : Int32)) = (4 : Int32) then
        if (l3 + (1 : Int32)) < 0 ∨ L ≤ (l3 + (1 : Int32)).toNatClampNeg then none else
        if (l3 + (2 : Int32)) < 0 ∨ L ≤ (l3 + (2 : Int32)).toNatClampNeg then none else
        qbind (f_X5_suit N (xs (l3 + (1 : Int32)).toNatClampNeg) (xs (l3 + (2 : Int32)).toNatClampNeg) h) fun (x2509, h2508) =>
        if (l3 + (1 : Int32)) < 0 ∨ L ≤ (l3 + (1 : Int32)).toNatClampNeg then none else
        if (l3 + (2 : Int32)) < 0 ∨ L ≤ (l3 + (2 : Int32)).toNatClampNeg then none else
        qbind (f_X6_suit N (xs (l3 + (1 : Int32)).toNatClampNeg) (xs (l3 + (2 : Int32)).toNatClampNeg) h2508) fun (x2514, h2513) =>
        if x2509 = x2514 then
          f_L_law_L18 N L xs n (l3 + (6 : Int32)) h2513
        else
          some (.inl ((0 : Int32), h2513))
      else
      if ((xs l3.toNatClampNeg) &&& (63 : Int32)) = (5 : Int32) then
        if (l3 + (1 : Int32)) < 0 ∨ L ≤ (l3 + (1 : Int32)).toNatClampNeg then none else
        if (l3 + (2 : Int32)) < 0 ∨ L ≤ (l3 + (2 : Int32)).toNatClampNeg then none else
        qbind (f_X5_told (xs (l3 + (1 : Int32)).toNatClampNeg) (xs (l3 + (2 : Int32)).toNatClampNeg) h) fun (x2521, h2520) =>
        if (l3 + (1 : Int32)) < 0 ∨ L ≤ (l3 + (1 : Int32)).toNatClampNeg then none else
        if (l3 + (2 : Int32)) < 0 ∨ L ≤ (l3 + (2 : Int32)).toNatClampNeg then none else
        qbind (f_X6_told (xs (l3 + (1 : Int32)).toNatClampNeg) (xs (l3 + (2 : Int32)).toNatClampNeg) h2520) fun (x2526, h2525) =>
        if x2521 = x2526 then
          f_L_law_L18 N L xs n (l3 + (6 : Int32)) h2525
        else
          some (.inl ((0 : Int32), h2525))
      else
      if ((xs l3.toNatClampNeg) &&& (63 : Int32)) = (6 : Int32) then
        if (l3 + (1 : Int32)) < 0 ∨ L ≤ (l3 + (1 : Int32)).toNatClampNeg then none else
        qbind (f_X5_hand (xs (l3 + (1 : Int32)).toNatClampNeg) h) fun (x2532, h2531) =>
        if (l3 + (1 : Int32)) < 0 ∨ L ≤ (l3 + (1 : Int32)).toNatClampNeg then none else
        qbind (f_X6_hand (xs (l3 + (1 : Int32)).toNatClampNeg) h2531) fun (x2536, h2535) =>
        if x2532 = x2536 then
          f_L_law_L18 N L xs n (l3 + (6 : Int32)) h2535
        else
          some (.inl ((0 : Int32), h2535))
      else
      if ((xs l3.toNatClampNeg) &&& (63 : Int32)) = (7 : Int32) then
        if (l3 + (1 : Int32)) < 0 ∨ L ≤ (l3 + (1 : Int32)).toNatClampNeg then none else
        qbind (f_X5_purse (xs (l3 + (1 : Int32)).toNatClampNeg) h) fun (x2542, h2541) =>
        if (l3 + (1 : Int32)) < 0 ∨ L ≤ (l3 + (1 : Int32)).toNatClampNeg then none else
        qbind (f_X6_purse (xs (l3 + (1 : Int32)).toNatClampNeg) h2541) fun (x2546, h2545) =>
        if x2542 = x2546 then
          f_L_law_L18 N L xs n (l3 + (6 : Int32)) h2545
        else
          some (.inl ((0 : Int32), h2545))
      else
      if ((xs l3.toNatClampNeg) &&& (63 : Int32)) = (8 : Int32) then
        if (l3 + (1 : Int32)) < 0 ∨ L ≤ (l3 + (1 : Int32)).toNatClampNeg then none else
        qbind (f_X5_value N (xs (l3 + (1 : Int32)).toNatClampNeg) h) fun (x2552, h2551) =>
        if (l3 + (1 : Int32)) < 0 ∨ L ≤ (l3 + (1 : Int32)).toNatClampNeg then none else
        qbind (f_X6_value N (xs (l3 + (1 : Int32)).toNatClampNeg) h2551) fun (x2556, h2555) =>
        if x2552 = x2556 then
          f_L_law_L18 N L xs n (l3 + (6 : Int32)) h2555
        else
          some (.inl ((0 : Int32), h2555))
      else
      if ((xs l3.toNatClampNeg) &&& (63 : Int32)) = (9 : Int32) then
        if (l3 + (1 : Int32)) < 0 ∨ L ≤ (l3 + (1 : Int32)).toNatClampNeg then none else
        if (l3 + (2 : Int32)) < 0 ∨ L ≤ (l3 + (2 : Int32)).toNatClampNeg then none else
        if (l3 + (3 : Int32)) < 0 ∨ L ≤ (l3 + (3 : Int32)).toNatClampNeg then none else
        qbind (f_X5_type N (((xs (l3 + (1 : Int32)).toNatClampNeg).toInt64 <<< ((32 : Int32).toInt64 &&& 63)) ||| ((xs (l3 + (2 : Int32)).toNatClampNeg).toInt64 &&& (4294967295 : Int64))) (xs (l3 + (3 : Int32)).toNatClampNeg) h) fun (x2564, h2563) =>
        if (l3 + (1 : Int32)) < 0 ∨ L ≤ (l3 + (1 : Int32)).toNatClampNeg then none else
        if (l3 + (2 : Int32)) < 0 ∨ L ≤ (l3 + (2 : Int32)).toNatClampNeg then none else
        if (l3 + (3 : Int32)) < 0 ∨ L ≤ (l3 + (3 : Int32)).toNatClampNeg then none else
        qbind (f_X6_type N (((xs (l3 + (1 : Int32)).toNatClampNeg).toInt64 <<< ((32 : Int32).toInt64 &&& 63)) ||| ((xs (l3 + (2 : Int32)).toNatClampNeg).toInt64 &&& (4294967295 : Int64))) (xs (l3 + (3 : Int32)).toNatClampNeg) h2563) fun (x2570, h2569) =>
        if x2564 = x2570 then
          f_L_law_L18 N L xs n (l3 + (6 : Int32)) h2569
        else
          some (.inl ((0 : Int32), h2569))
      else
      if ((xs l3.toNatClampNeg) &&& (63 : Int32)) = (10 : Int32) then
        qbind (f_X5_village N  h) fun (x2575, h2574) =>
        qbind (f_X6_village N  h2574) fun (x2578, h2577) =>
        if x2575 = x2578 then
          f_L_law_L18 N L xs n (l3 + (6 : Int32)) h2577
        else
          some (.inl ((0 : Int32), h2577))
      else
      if ((xs l3.toNatClampNeg) &&& (63 : Int32)) = (11 : Int32) then
        qbind (f_X5_suits N  h) fun (x2583, h2582) =>
        qbind (f_X6_suits N  h2582) fun (x2586, h2585) =>
        if x2583 = x2586 then
          f_L_law_L18 N L xs n (l3 + (6 : Int32)) h2585
        else
          some (.inl ((0 : Int32), h2585))
      else
      if ((xs l3.toNatClampNeg) &&& (63 : Int32)) = (12 : Int32) then
        if (l3 + (1 : Int32)) < 0 ∨ L ≤ (l3 + (1 : Int32)).toNatClampNeg then none else
        qbind (f_X5_count N (xs (l3 + (1 : Int32)).toNatClampNeg) h) fun (x2592, h2591) =>
        if (l3 + (1 : Int32)) < 0 ∨ L ≤ (l3 + (1 : Int32)).toNatClampNeg then none else
        qbind (f_X6_count N (xs (l3 + (1 : Int32)).toNatClampNeg) h2591) fun (x2596, h2595) =>
        if x2592 = x2596 then
          f_L_law_L18 N L xs n (l3 + (6 : Int32)) h2595
        else
          some (.inl ((0 : Int32), h2595))
      else
      if ((xs l3.toNatClampNeg) &&& (63 : Int32)) = (13 : Int32) then
        if (l3 + (1 : Int32)) < 0 ∨ L ≤ (l3 + (1 : Int32)).toNatClampNeg then none else
        if (l3 + (2 : Int32)) < 0 ∨ L ≤ (l3 + (2 : Int32)).toNatClampNeg then none else
        if (l3 + (3 : Int32)) < 0 ∨ L ≤ (l3 + (3 : Int32)).toNatClampNeg then none else
        qbind (f_X5_sale N (xs (l3 + (1 : Int32)).toNatClampNeg) (xs (l3 + (2 : Int32)).toNatClampNeg) (xs (l3 + (3 : Int32)).toNatClampNeg) h) fun (x2604, h2603) =>
        if (l3 + (1 : Int32)) < 0 ∨ L ≤ (l3 + (1 : Int32)).toNatClampNeg then none else
        if (l3 + (2 : Int32)) < 0 ∨ L ≤ (l3 + (2 : Int32)).toNatClampNeg then none else
        if (l3 + (3 : Int32)) < 0 ∨ L ≤ (l3 + (3 : Int32)).toNatClampNeg then none else
        qbind (f_X6_sale N (xs (l3 + (1 : Int32)).toNatClampNeg) (xs (l3 + (2 : Int32)).toNatClampNeg) (xs (l3 + (3 : Int32)).toNatClampNeg) h2603) fun (x2610, h2609) =>
        if x2604 = x2610 then
          f_L_law_L18 N L xs n (l3 + (6 : Int32)) h2609
        else
          some (.inl ((0 : Int32), h2609))
      else
      if ((xs l3.toNatClampNeg) &&& (63 : Int32)) = (14 : Int32) then
        if (l3 + (1 : Int32)) < 0 ∨ L ≤ (l3 + (1 : Int32)).toNatClampNeg then none else
        if (l3 + (2 : Int32)) < 0 ∨ L ≤ (l3 + (2 : Int32)).toNatClampNeg then none else
        qbind (f_X5_swap N (xs (l3 + (1 : Int32)).toNatClampNeg) (xs (l3 + (2 : Int32)).toNatClampNeg) h) fun (x2617, h2616) =>
        if (l3 + (1 : Int32)) < 0 ∨ L ≤ (l3 + (1 : Int32)).toNatClampNeg then none else
        if (l3 + (2 : Int32)) < 0 ∨ L ≤ (l3 + (2 : Int32)).toNatClampNeg then none else
        qbind (f_X6_swap N (xs (l3 + (1 : Int32)).toNatClampNeg) (xs (l3 + (2 : Int32)).toNatClampNeg) h2616) fun (x2622, h2621) =>
        if x2617 = x2622 then
          f_L_law_L18 N L xs n (l3 + (6 : Int32)) h2621
        else
          some (.inl ((0 : Int32), h2621))
      else
      if ((xs l3.toNatClampNeg) &&& (63 : Int32)) = (15 : Int32) then
        if (l3 + (1 : Int32)) < 0 ∨ L ≤ (l3 + (1 : Int32)).toNatClampNeg then none else
        qbind (f_X5_give N (xs (l3 + (1 : Int32)).toNatClampNeg) h) fun (x2628, h2627) =>
        if (l3 + (1 : Int32)) < 0 ∨ L ≤ (l3 + (1 : Int32)).toNatClampNeg then none else
        qbind (f_X6_give N (xs (l3 + (1 : Int32)).toNatClampNeg) h2627) fun (x2632, h2631) =>
        if x2628 = x2632 then
          f_L_law_L18 N L xs n (l3 + (6 : Int32)) h2631
        else
          some (.inl ((0 : Int32), h2631))
      else
      if ((xs l3.toNatClampNeg) &&& (63 : Int32)) = (16 : Int32) then
        if (l3 + (1 : Int32)) < 0 ∨ L ≤ (l3 + (1 : Int32)).toNatClampNeg then none else
        if (l3 + (2 : Int32)) < 0 ∨ L ≤ (l3 + (2 : Int32)).toNatClampNeg then none else
        qbind (f_X5_wed N (xs (l3 + (1 : Int32)).toNatClampNeg) (xs (l3 + (2 : Int32)).toNatClampNeg) h) fun (x2639, h2638) =>
        if (l3 + (1 : Int32)) < 0 ∨ L ≤ (l3 + (1 : Int32)).toNatClampNeg then none else
        if (l3 + (2 : Int32)) < 0 ∨ L ≤ (l3 + (2 : Int32)).toNatClampNeg then none else
        qbind (f_X6_wed N (xs (l3 + (1 : Int32)).toNatClampNeg) (xs (l3 + (2 : Int32)).toNatClampNeg) h2638) fun (x2644, h2643) =>
        if x2639 = x2644 then
          f_L_law_L18 N L xs n (l3 + (6 : Int32)) h2643
        else
          some (.inl ((0 : Int32), h2643))
      else
      if ((xs l3.toNatClampNeg) &&& (63 : Int32)) = (17 : Int32) then
        if (l3 + (1 : Int32)) < 0 ∨ L ≤ (l3 + (1 : Int32)).toNatClampNeg then none else
        if (l3 + (2 : Int32)) < 0 ∨ L ≤ (l3 + (2 : Int32)).toNatClampNeg then none else
        qbind (f_X5_part N (xs (l3 + (1 : Int32)).toNatClampNeg) (xs (l3 + (2 : Int32)).toNatClampNeg) h) fun (x2651, h2650) =>
        if (l3 + (1 : Int32)) < 0 ∨ L ≤ (l3 + (1 : Int32)).toNatClampNeg then none else
        if (l3 + (2 : Int32)) < 0 ∨ L ≤ (l3 + (2 : Int32)).toNatClampNeg then none else
        qbind (f_X6_part N (xs (l3 + (1 : Int32)).toNatClampNeg) (xs (l3 + (2 : Int32)).toNatClampNeg) h2650) fun (x2656, h2655) =>
        if x2651 = x2656 then
          f_L_law_L18 N L xs n (l3 + (6 : Int32)) h2655
        else
          some (.inl ((0 : Int32), h2655))
      else
      if ((xs l3.toNatClampNeg) &&& (63 : Int32)) = (18 : Int32) then
        if (l3 + (1 : Int32)) < 0 ∨ L ≤ (l3 + (1 : Int32)).toNatClampNeg then none else
        if (l3 + (2 : Int32)) < 0 ∨ L ≤ (l3 + (2 : Int32)).toNatClampNeg then none else
        if (l3 + (3 : Int32)) < 0 ∨ L ≤ (l3 + (3 : Int32)).toNatClampNeg then none else
        qbind (f_X5_gain N (xs (l3 + (1 : Int32)).toNatClampNeg) (xs (l3 + (2 : Int32)).toNatClampNeg) (xs (l3 + (3 : Int32)).toNatClampNeg) h) fun (x2664, h2663) =>
        if (l3 + (1 : Int32)) < 0 ∨ L ≤ (l3 + (1 : Int32)).toNatClampNeg then none else
        if (l3 + (2 : Int32)) < 0 ∨ L ≤ (l3 + (2 : Int32)).toNatClampNeg then none else
        if (l3 + (3 : Int32)) < 0 ∨ L ≤ (l3 + (3 : Int32)).toNatClampNeg then none else
        qbind (f_X6_gain N (xs (l3 + (1 : Int32)).toNatClampNeg) (xs (l3 + (2 : Int32)).toNatClampNeg) (xs (l3 + (3 : Int32)).toNatClampNeg) h2663) fun (x2670, h2669) =>
        if x2664 = x2670 then
          f_L_law_L18 N L xs n (l3 + (6 : Int32)) h2669
        else
          some (.inl ((0 : Int32), h2669))
      else
      if ((xs l3.toNatClampNeg) &&& (63 : Int32)) = (19 : Int32) then
        if (l3 + (1 : Int32)) < 0 ∨ L ≤ (l3 + (1 : Int32)).toNatClampNeg then none else
        if (l3 + (2 : Int32)) < 0 ∨ L ≤ (l3 + (2 : Int32)).toNatClampNeg then none else
        qbind (f_X5_agreed N (xs (l3 + (1 : Int32)).toNatClampNeg) (xs (l3 + (2 : Int32)).toNatClampNeg) h) fun (x2677, h2676) =>
        if (l3 + (1 : Int32)) < 0 ∨ L ≤ (l3 + (1 : Int32)).toNatClampNeg then none else
        if (l3 + (2 : Int32)) < 0 ∨ L ≤ (l3 + (2 : Int32)).toNatClampNeg then none else
        qbind (f_X6_agreed N (xs (l3 + (1 : Int32)).toNatClampNeg) (xs (l3 + (2 : Int32)).toNatClampNeg) h2676) fun (x2682, h2681) =>
        if x2677 = x2682 then
          f_L_law_L18 N L xs n (l3 + (6 : Int32)) h2681
        else
          some (.inl ((0 : Int32), h2681))
      else
      if ((xs l3.toNatClampNeg) &&& (63 : Int32)) = (20 : Int32) then
        if (l3 + (1 : Int32)) < 0 ∨ L ≤ (l3 + (1 : Int32)).toNatClampNeg then none else
        qbind (f_X5_rest N (xs (l3 + (1 : Int32)).toNatClampNeg) h) fun (x2688, h2687) =>
        if (l3 + (1 : Int32)) < 0 ∨ L ≤ (l3 + (1 : Int32)).toNatClampNeg then none else
        qbind (f_X6_rest N (xs (l3 + (1 : Int32)).toNatClampNeg) h2687) fun (x2692, h2691) =>
        if x2688 = x2692 then
          f_L_law_L18 N L xs n (l3 + (6 : Int32)) h2691
        else
          some (.inl ((0 : Int32), h2691))
      else
      if ((xs l3.toNatClampNeg) &&& (63 : Int32)) = (21 : Int32) then
        if (l3 + (1 : Int32)) < 0 ∨ L ≤ (l3 + (1 : Int32)).toNatClampNeg then none else
        qbind (f_X5_group N (xs (l3 + (1 : Int32)).toNatClampNeg) h) fun (x2698, h2697) =>
        if (l3 + (1 : Int32)) < 0 ∨ L ≤ (l3 + (1 : Int32)).toNatClampNeg then none else
        qbind (f_X6_group N (xs (l3 + (1 : Int32)).toNatClampNeg) h2697) fun (x2702, h2701) =>
        if x2698 = x2702 then
          f_L_law_L18 N L xs n (l3 + (6 : Int32)) h2701
        else
          some (.inl ((0 : Int32), h2701))
      else
      if ((xs l3.toNatClampNeg) &&& (63 : Int32)) = (22 : Int32) then
        qbind (f_X5_never N  h) fun (x2707, h2706) =>
        qbind (f_X6_never N  h2706) fun (x2710, h2709) =>
        if x2707 = x2710 then
          f_L_law_L18 N L xs n (l3 + (6 : Int32)) h2709
        else
          some (.inl ((0 : Int32), h2709))
      else
      if ((xs l3.toNatClampNeg) &&& (63 : Int32)) = (23 : Int32) then
        if (l3 + (1 : Int32)) < 0 ∨ L ≤ (l3 + (1 : Int32)).toNatClampNeg then none else
        qbind (f_X5_fewest N (xs (l3 + (1 : Int32)).toNatClampNeg) h) fun (x2716, h2715) =>
        if (l3 + (1 : Int32)) < 0 ∨ L ≤ (l3 + (1 : Int32)).toNatClampNeg then none else
        qbind (f_X6_fewest N (xs (l3 + (1 : Int32)).toNatClampNeg) h2715) fun (x2720, h2719) =>
        if x2716 = x2720 then
          f_L_law_L18 N L xs n (l3 + (6 : Int32)) h2719
        else
          some (.inl ((0 : Int32), h2719))
      else
      if ((xs l3.toNatClampNeg) &&& (63 : Int32)) = (24 : Int32) then
        if (l3 + (1 : Int32)) < 0 ∨ L ≤ (l3 + (1 : Int32)).toNatClampNeg then none else
        if (l3 + (2 : Int32)) < 0 ∨ L ≤ (l3 + (2 : Int32)).toNatClampNeg then none else
        qbind (f_X5_best N (xs (l3 + (1 : Int32)).toNatClampNeg) (xs (l3 + (2 : Int32)).toNatClampNeg) h) fun (x2727, h2726) =>
        if (l3 + (1 : Int32)) < 0 ∨ L ≤ (l3 + (1 : Int32)).toNatClampNeg then none else
        if (l3 + (2 : Int32)) < 0 ∨ L ≤ (l3 + (2 : Int32)).toNatClampNeg then none else
        qbind (f_X6_best N (xs (l3 + (1 : Int32)).toNatClampNeg) (xs (l3 + (2 : Int32)).toNatClampNeg) h2726) fun (x2732, h2731) =>
        if x2727 = x2732 then
          f_L_law_L18 N L xs n (l3 + (6 : Int32)) h2731
        else
          some (.inl ((0 : Int32), h2731))
      else
      if ((xs l3.toNatClampNeg) &&& (63 : Int32)) = (25 : Int32) then
        if (l3 + (1 : Int32)) < 0 ∨ L ≤ (l3 + (1 : Int32)).toNatClampNeg then none else
        if (l3 + (2 : Int32)) < 0 ∨ L ≤ (l3 + (2 : Int32)).toNatClampNeg then none else
        qbind (f_X5_saves N (xs (l3 + (1 : Int32)).toNatClampNeg) (xs (l3 + (2 : Int32)).toNatClampNeg) h) fun (x2739, h2738) =>
        if (l3 + (1 : Int32)) < 0 ∨ L ≤ (l3 + (1 : Int32)).toNatClampNeg then none else
        if (l3 + (2 : Int32)) < 0 ∨ L ≤ (l3 + (2 : Int32)).toNatClampNeg then none else
        qbind (f_X6_saves N (xs (l3 + (1 : Int32)).toNatClampNeg) (xs (l3 + (2 : Int32)).toNatClampNeg) h2738) fun (x2744, h2743) =>
        if x2739 = x2744 then
          f_L_law_L18 N L xs n (l3 + (6 : Int32)) h2743
        else
          some (.inl ((0 : Int32), h2743))
      else
      if ((xs l3.toNatClampNeg) &&& (63 : Int32)) = (26 : Int32) then
        qbind (f_X5_match N  h) fun (x2749, h2748) =>
        qbind (f_X6_match N  h2748) fun (x2752, h2751) =>
        if x2749 = x2752 then
          f_L_law_L18 N L xs n (l3 + (6 : Int32)) h2751
        else
          some (.inl ((0 : Int32), h2751))
      else
      if ((xs l3.toNatClampNeg) &&& (63 : Int32)) = (27 : Int32) then
        if (l3 + (1 : Int32)) < 0 ∨ L ≤ (l3 + (1 : Int32)).toNatClampNeg then none else
        if (l3 + (2 : Int32)) < 0 ∨ L ≤ (l3 + (2 : Int32)).toNatClampNeg then none else
        if (l3 + (3 : Int32)) < 0 ∨ L ≤ (l3 + (3 : Int32)).toNatClampNeg then none else
        qbind (f_X5_against N (xs (l3 + (1 : Int32)).toNatClampNeg) (xs (l3 + (2 : Int32)).toNatClampNeg) (xs (l3 + (3 : Int32)).toNatClampNeg) h) fun (x2760, h2759) =>
        if (l3 + (1 : Int32)) < 0 ∨ L ≤ (l3 + (1 : Int32)).toNatClampNeg then none else
        if (l3 + (2 : Int32)) < 0 ∨ L ≤ (l3 + (2 : Int32)).toNatClampNeg then none else
        if (l3 + (3 : Int32)) < 0 ∨ L ≤ (l3 + (3 : Int32)).toNatClampNeg then none else
        qbind (f_X6_against N (xs (l3 + (1 : Int32)).toNatClampNeg) (xs (l3 + (2 : Int32)).toNatClampNeg) (xs (l3 + (3 : Int32)).toNatClampNeg) h2759) fun (x2766, h2765) =>
        if x2760 = x2766 then
          f_L_law_L18 N L xs n (l3 + (6 : Int32)) h2765
        else
          some (.inl ((0 : Int32), h2765))
      else
      if ((xs l3.toNatClampNeg) &&& (63 : Int32)) = (28 : Int32) then
        if (l3 + (1 : Int32)) < 0 ∨ L ≤ (l3 + (1 : Int32)).toNatClampNeg then none else
        if (l3 + (2 : Int32)) < 0 ∨ L ≤ (l3 + (2 : Int32)).toNatClampNeg then none else
        if (l3 + (3 : Int32)) < 0 ∨ L ≤ (l3 + (3 : Int32)).toNatClampNeg then none else
        if (l3 + (4 : Int32)) < 0 ∨ L ≤ (l3 + (4 : Int32)).toNatClampNeg then none else
        if (l3 + (5 : Int32)) < 0 ∨ L ≤ (l3 + (5 : Int32)).toNatClampNeg then none else
        qbind (f_X5_pays N (xs (l3 + (1 : Int32)).toNatClampNeg) (xs (l3 + (2 : Int32)).toNatClampNeg) (xs (l3 + (3 : Int32)).toNatClampNeg) (xs (l3 + (4 : Int32)).toNatClampNeg) (xs (l3 + (5 : Int32)).toNatClampNeg) h) fun (x2776, h2775) =>
        if (l3 + (1 : Int32)) < 0 ∨ L ≤ (l3 + (1 : Int32)).toNatClampNeg then none else
        if (l3 + (2 : Int32)) < 0 ∨ L ≤ (l3 + (2 : Int32)).toNatClampNeg then none else
        if (l3 + (3 : Int32)) < 0 ∨ L ≤ (l3 + (3 : Int32)).toNatClampNeg then none else
        if (l3 + (4 : Int32)) < 0 ∨ L ≤ (l3 + (4 : Int32)).toNatClampNeg then none else
        if (l3 + (5 : Int32)) < 0 ∨ L ≤ (l3 + (5 : Int32)).toNatClampNeg then none else
        qbind (f_X6_pays N (xs (l3 + (1 : Int32)).toNatClampNeg) (xs (l3 + (2 : Int32)).toNatClampNeg) (xs (l3 + (3 : Int32)).toNatClampNeg) (xs (l3 + (4 : Int32)).toNatClampNeg) (xs (l3 + (5 : Int32)).toNatClampNeg) h2775) fun (x2784, h2783) =>
        if x2776 = x2784 then
          f_L_law_L18 N L xs n (l3 + (6 : Int32)) h2783
        else
          some (.inl ((0 : Int32), h2783))
      else
      if ((xs l3.toNatClampNeg) &&& (63 : Int32)) = (29 : Int32) then
        qbind (f_X5_image  h) fun (x2789, h2788) =>
        qbind (f_X6_image N  h2788) fun (x2792, h2791) =>
        if x2789 = x2792 then
          f_L_law_L18 N L xs n (l3 + (6 : Int32)) h2791
        else
          some (.inl ((0 : Int32), h2791))
      else
      if ((xs l3.toNatClampNeg) &&& (63 : Int32)) = (30 : Int32) then
        qbind (f_X5_restore  h) fun (x2797, h2796) =>
        qbind (f_X6_restore N  h2796) fun (x2800, h2799) =>
        if x2797 = x2800 then
          f_L_law_L18 N L xs n (l3 + (6 : Int32)) h2799
        else
          some (.inl ((0 : Int32), h2799))
      else
      if ((xs l3.toNatClampNeg) &&& (63 : Int32)) = (31 : Int32) then
        if (l3 + (1 : Int32)) < 0 ∨ L ≤ (l3 + (1 : Int32)).toNatClampNeg then none else
        if (l3 + (2 : Int32)) < 0 ∨ L ≤ (l3 + (2 : Int32)).toNatClampNeg then none else
        if (l3 + (3 : Int32)) < 0 ∨ L ≤ (l3 + (3 : Int32)).toNatClampNeg then none else
        if (l3 + (4 : Int32)) < 0 ∨ L ≤ (l3 + (4 : Int32)).toNatClampNeg then none else
        qbind (f_X5_deal N (xs (l3 + (1 : Int32)).toNatClampNeg) (xs (l3 + (2 : Int32)).toNatClampNeg) (xs (l3 + (3 : Int32)).toNatClampNeg) (xs (l3 + (4 : Int32)).toNatClampNeg) h) fun (x2809, h2808) =>
        if (l3 + (1 : Int32)) < 0 ∨ L ≤ (l3 + (1 : Int32)).toNatClampNeg then none else
        if (l3 + (2 : Int32)) < 0 ∨ L ≤ (l3 + (2 : Int32)).toNatClampNeg then none else
        if (l3 + (3 : Int32)) < 0 ∨ L ≤ (l3 + (3 : Int32)).toNatClampNeg then none else
        if (l3 + (4 : Int32)) < 0 ∨ L ≤ (l3 + (4 : Int32)).toNatClampNeg then none else
        qbind (f_X6_deal N (xs (l3 + (1 : Int32)).toNatClampNeg) (xs (l3 + (2 : Int32)).toNatClampNeg) (xs (l3 + (3 : Int32)).toNatClampNeg) (xs (l3 + (4 : Int32)).toNatClampNeg) h2808) fun (x2816, h2815) =>
        if x2809 = x2816 then
          f_L_law_L18 N L xs n (l3 + (6 : Int32)) h2815
        else
          some (.inl ((0 : Int32), h2815))
      else
      if ((xs l3.toNatClampNeg) &&& (63 : Int32)) = (32 : Int32) then
        if (l3 + (1 : Int32)) < 0 ∨ L ≤ (l3 + (1 : Int32)).toNatClampNeg then none else
        if (l3 + (2 : Int32)) < 0 ∨ L ≤ (l3 + (2 : Int32)).toNatClampNeg then none else
        if (l3 + (3 : Int32)) < 0 ∨ L ≤ (l3 + (3 : Int32)).toNatClampNeg then none else
        qbind (f_X5_sheet N (xs (l3 + (1 : Int32)).toNatClampNeg) (xs (l3 + (2 : Int32)).toNatClampNeg) (xs (l3 + (3 : Int32)).toNatClampNeg) h) fun (x2824, h2823) =>
        if (l3 + (1 : Int32)) < 0 ∨ L ≤ (l3 + (1 : Int32)).toNatClampNeg then none else
        if (l3 + (2 : Int32)) < 0 ∨ L ≤ (l3 + (2 : Int32)).toNatClampNeg then none else
        if (l3 + (3 : Int32)) < 0 ∨ L ≤ (l3 + (3 : Int32)).toNatClampNeg then none else
        qbind (f_X6_sheet N (xs (l3 + (1 : Int32)).toNatClampNeg) (xs (l3 + (2 : Int32)).toNatClampNeg) (xs (l3 + (3 : Int32)).toNatClampNeg) h2823) fun (x2830, h2829) =>
        if x2824 = x2830 then
          f_L_law_L18 N L xs n (l3 + (6 : Int32)) h2829
        else
          some (.inl ((0 : Int32), h2829))
      else
      if ((xs l3.toNatClampNeg) &&& (63 : Int32)) = (33 : Int32) then
        if (l3 + (1 : Int32)) < 0 ∨ L ≤ (l3 + (1 : Int32)).toNatClampNeg then none else
        qbind (f_X5_drop (xs (l3 + (1 : Int32)).toNatClampNeg) h) fun (x2836, h2835) =>
        if (l3 + (1 : Int32)) < 0 ∨ L ≤ (l3 + (1 : Int32)).toNatClampNeg then none else
        qbind (f_X6_drop (xs (l3 + (1 : Int32)).toNatClampNeg) h2835) fun (x2840, h2839) =>
        if x2836 = x2840 then
          f_L_law_L18 N L xs n (l3 + (6 : Int32)) h2839
        else
          some (.inl ((0 : Int32), h2839))
      else
      if ((xs l3.toNatClampNeg) &&& (63 : Int32)) = (34 : Int32) then
        if (l3 + (1 : Int32)) < 0 ∨ L ≤ (l3 + (1 : Int32)).toNatClampNeg then none else
        if (l3 + (2 : Int32)) < 0 ∨ L ≤ (l3 + (2 : Int32)).toNatClampNeg then none else
        if (l3 + (3 : Int32)) < 0 ∨ L ≤ (l3 + (3 : Int32)).toNatClampNeg then none else
        if (l3 + (4 : Int32)) < 0 ∨ L ≤ (l3 + (4 : Int32)).toNatClampNeg then none else
        qbind (f_X5_item (xs (l3 + (1 : Int32)).toNatClampNeg) (xs (l3 + (2 : Int32)).toNatClampNeg) (xs (l3 + (3 : Int32)).toNatClampNeg) (xs (l3 + (4 : Int32)).toNatClampNeg) h) fun (x2849, h2848) =>
        if (l3 + (1 : Int32)) < 0 ∨ L ≤ (l3 + (1 : Int32)).toNatClampNeg then none else
        if (l3 + (2 : Int32)) < 0 ∨ L ≤ (l3 + (2 : Int32)).toNatClampNeg then none else
        if (l3 + (3 : Int32)) < 0 ∨ L ≤ (l3 + (3 : Int32)).toNatClampNeg then none else
        if (l3 + (4 : Int32)) < 0 ∨ L ≤ (l3 + (4 : Int32)).toNatClampNeg then none else
        qbind (f_X6_item (xs (l3 + (1 : Int32)).toNatClampNeg) (xs (l3 + (2 : Int32)).toNatClampNeg) (xs (l3 + (3 : Int32)).toNatClampNeg) (xs (l3 + (4 : Int32)).toNatClampNeg) h2848) fun (x2856, h2855) =>
        if x2849 = x2856 then
          f_L_law_L18 N L xs n (l3 + (6 : Int32)) h2855
        else
          some (.inl ((0 : Int32), h2855))
      else
      if ((xs l3.toNatClampNeg) &&& (63 : Int32)) = (35 : Int32) then
        if (l3 + (1 : Int32)) < 0 ∨ L ≤ (l3 + (1 : Int32)).toNatClampNeg then none else
        if (l3 + (2 : Int32)) < 0 ∨ L ≤ (l3 + (2 : Int32)).toNatClampNeg then none else
        if (l3 + (3 : Int32)) < 0 ∨ L ≤ (l3 + (3 : Int32)).toNatClampNeg then none else
        if (l3 + (4 : Int32)) < 0 ∨ L ≤ (l3 + (4 : Int32)).toNatClampNeg then none else
        if (l3 + (5 : Int32)) < 0 ∨ L ≤ (l3 + (5 : Int32)).toNatClampNeg then none else
        qbind (f_X5_copy (xs (l3 + (1 : Int32)).toNatClampNeg) (xs (l3 + (2 : Int32)).toNatClampNeg) (xs (l3 + (3 : Int32)).toNatClampNeg) (xs (l3 + (4 : Int32)).toNatClampNeg) (xs (l3 + (5 : Int32)).toNatClampNeg) h) fun (x2866, h2865) =>
        if (l3 + (1 : Int32)) < 0 ∨ L ≤ (l3 + (1 : Int32)).toNatClampNeg then none else
        if (l3 + (2 : Int32)) < 0 ∨ L ≤ (l3 + (2 : Int32)).toNatClampNeg then none else
        if (l3 + (3 : Int32)) < 0 ∨ L ≤ (l3 + (3 : Int32)).toNatClampNeg then none else
        if (l3 + (4 : Int32)) < 0 ∨ L ≤ (l3 + (4 : Int32)).toNatClampNeg then none else
        if (l3 + (5 : Int32)) < 0 ∨ L ≤ (l3 + (5 : Int32)).toNatClampNeg then none else
        qbind (f_X6_copy N (xs (l3 + (1 : Int32)).toNatClampNeg) (xs (l3 + (2 : Int32)).toNatClampNeg) (xs (l3 + (3 : Int32)).toNatClampNeg) (xs (l3 + (4 : Int32)).toNatClampNeg) (xs (l3 + (5 : Int32)).toNatClampNeg) h2865) fun (x2874, h2873) =>
        if x2866 = x2874 then
          f_L_law_L18 N L xs n (l3 + (6 : Int32)) h2873
        else
          some (.inl ((0 : Int32), h2873))
      else
        f_L_law_L18 N L xs n (l3 + (6 : Int32)) h
set_option maxHeartbeats 40000000 in
set_option maxRecDepth 100000 in
theorem t_L_law_L18 {d N : Nat} (hd : 17 ≤ d) : ∀ (n : Nat) (L : Nat) (xs : Nat → Int32) (l3 : Int32) (h : qN) (res : (Int32 × qN) ⊕ (qN)), f_L_law_L18 N L xs n l3 h = some res → ∀ (v : Option Value) (h1 : qN), (∀ (rv : Int32) (rh : qN), res = .inl (rv, rh) → v = some (.int rv) ∧ h1 = rh) → (∀ (h2 : qN), res = .inr h2 → RR d (cd_law L xs) (80, 1230) 1356 [qU, qU, qU, qU] [] h2 v h1) → RR d (cd_law L xs) (80, 1230) 18 [.ref qSCR, .ref 0, .ref 60, .int l3] [] h v h1 := by
  intro n
  induction n with
  | zero =>
    intro L xs l3 h res hf v h1 hR hE
    exact absurd hf (by simp [f_L_law_L18])
  | succ n ih =>
    intro L xs l3 h res hf v h1 hR hE
    unfold f_L_law_L18 at hf
    refine R_ldI rfl rfl ?_
    refine R_ldA rfl rfl ?_
    refine R_slen rfl ?_
    refine R_I rfl ?_
    refine R_bin rfl ?_
    rcases qite hf with ⟨c2453, hf⟩ | ⟨c2453, hf⟩
    · refine R_CmGt_t rfl c2453 ?_
      refine R_drop [false, false, false, false] (ls' := [qU, qU, qU, qU]) rfl ?_
      obtain rfl := Option.some.inj hf
      exact hE _ rfl
    · refine R_CmGt_f rfl c2453 ?_
      refine R_ldA rfl rfl ?_
      refine R_ldI rfl rfl ?_
      obtain ⟨c2454, hf⟩ := qchk hf
      refine R_sld rfl c2454 ?_
      refine R_I rfl ?_
      refine R_bin rfl ?_
      rcases qite hf with ⟨c2455, hf⟩ | ⟨c2455, hf⟩
      · refine R_sw rfl (by rw [c2455]) ?_
        refine R_ldA rfl rfl ?_
        refine R_ldA rfl rfl ?_
        refine R_ldI rfl rfl ?_
        refine R_I rfl ?_
        refine R_bin rfl ?_
        obtain ⟨c2456, hf⟩ := qchk hf
        refine R_sld rfl c2456 ?_
        refine R_ldA rfl rfl ?_
        refine R_ldI rfl rfl ?_
        refine R_I rfl ?_
        refine R_bin rfl ?_
        obtain ⟨c2457, hf⟩ := qchk hf
        refine R_sld rfl c2457 ?_
        refine R_ldA rfl rfl ?_
        refine R_ldI rfl rfl ?_
        refine R_I rfl ?_
        refine R_bin rfl ?_
        obtain ⟨c2458, hf⟩ := qchk hf
        refine R_sld rfl c2458 ?_
        obtain ⟨⟨x2460, h2459⟩, e2461, hf⟩ := qbind_some hf
        dsimp only at hf
        refine R_callVi (as := [.ref 0, .int (xs (l3 + (1 : Int32)).toNatClampNeg), .int (xs (l3 + (2 : Int32)).toNatClampNeg), .int (xs (l3 + (3 : Int32)).toNatClampNeg)]) (rest := []) rfl rfl sh_0 rfl rfl rfl rfl (t_X5_person (by omega) (xs (l3 + (1 : Int32)).toNatClampNeg) (xs (l3 + (2 : Int32)).toNatClampNeg) (xs (l3 + (3 : Int32)).toNatClampNeg) h e2461) ?_
        refine R_ldA rfl rfl ?_
        refine R_ldA rfl rfl ?_
        refine R_ldI rfl rfl ?_
        refine R_I rfl ?_
        refine R_bin rfl ?_
        obtain ⟨c2462, hf⟩ := qchk hf
        refine R_sld rfl c2462 ?_
        refine R_ldA rfl rfl ?_
        refine R_ldI rfl rfl ?_
        refine R_I rfl ?_
        refine R_bin rfl ?_
        obtain ⟨c2463, hf⟩ := qchk hf
        refine R_sld rfl c2463 ?_
        refine R_ldA rfl rfl ?_
        refine R_ldI rfl rfl ?_
        refine R_I rfl ?_
        refine R_bin rfl ?_
        obtain ⟨c2464, hf⟩ := qchk hf
        refine R_sld rfl c2464 ?_
        obtain ⟨⟨x2466, h2465⟩, e2467, hf⟩ := qbind_some hf
        dsimp only at hf
        refine R_callVi (as := [.ref 60, .int (xs (l3 + (1 : Int32)).toNatClampNeg), .int (xs (l3 + (2 : Int32)).toNatClampNeg), .int (xs (l3 + (3 : Int32)).toNatClampNeg)]) (rest := [.int x2460]) rfl rfl sh_60 rfl rfl rfl rfl (t_X6_person (by omega) (xs (l3 + (1 : Int32)).toNatClampNeg) (xs (l3 + (2 : Int32)).toNatClampNeg) (xs (l3 + (3 : Int32)).toNatClampNeg) h2459 e2467) ?_
        rcases qite hf with ⟨c2468, hf⟩ | ⟨c2468, hf⟩
        · refine R_CmEq_t rfl c2468 ?_
          refine R_inc (ls' := [.ref qSCR, .ref 0, .ref 60, .int (l3 + (6 : Int32))]) rfl rfl rfl rfl ?_
          refine R_goto rfl ?_
          exact ih L xs (l3 + (6 : Int32)) h2465 _ hf _ _ hR hE
        · refine R_CmEq_f rfl c2468 ?_
          refine R_I rfl ?_
          obtain rfl := Option.some.inj hf
          obtain ⟨rfl, rfl⟩ := hR _ _ rfl
          exact R_retZ rfl (by decide)
      · skip
        rcases qite hf with ⟨c2469, hf⟩ | ⟨c2469, hf⟩
        · refine R_sw rfl (by rw [c2469]) ?_
          refine R_ldA rfl rfl ?_
          refine R_ldA rfl rfl ?_
          refine R_ldI rfl rfl ?_
          refine R_I rfl ?_
          refine R_bin rfl ?_
          obtain ⟨c2470, hf⟩ := qchk hf
          refine R_sld rfl c2470 ?_
          refine R_ldA rfl rfl ?_
          refine R_ldI rfl rfl ?_
          refine R_I rfl ?_
          refine R_bin rfl ?_
          obtain ⟨c2471, hf⟩ := qchk hf
          refine R_sld rfl c2471 ?_
          obtain ⟨⟨x2473, h2472⟩, e2474, hf⟩ := qbind_some hf
          dsimp only at hf
          refine R_callVi (as := [.ref 0, .int (xs (l3 + (1 : Int32)).toNatClampNeg), .int (xs (l3 + (2 : Int32)).toNatClampNeg)]) (rest := []) rfl rfl sh_0 rfl rfl rfl rfl (t_X5_rule (N := N) (by omega) (xs (l3 + (1 : Int32)).toNatClampNeg) (xs (l3 + (2 : Int32)).toNatClampNeg) h e2474) ?_
          refine R_ldA rfl rfl ?_
          refine R_ldA rfl rfl ?_
          refine R_ldI rfl rfl ?_
          refine R_I rfl ?_
          refine R_bin rfl ?_
          obtain ⟨c2475, hf⟩ := qchk hf
          refine R_sld rfl c2475 ?_
          refine R_ldA rfl rfl ?_
          refine R_ldI rfl rfl ?_
          refine R_I rfl ?_
          refine R_bin rfl ?_
          obtain ⟨c2476, hf⟩ := qchk hf
          refine R_sld rfl c2476 ?_
          obtain ⟨⟨x2478, h2477⟩, e2479, hf⟩ := qbind_some hf
          dsimp only at hf
          refine R_callVi (as := [.ref 60, .int (xs (l3 + (1 : Int32)).toNatClampNeg), .int (xs (l3 + (2 : Int32)).toNatClampNeg)]) (rest := [.int x2473]) rfl rfl sh_60 rfl rfl rfl rfl (t_X6_rule (N := N) (by omega) (xs (l3 + (1 : Int32)).toNatClampNeg) (xs (l3 + (2 : Int32)).toNatClampNeg) h2472 e2479) ?_
          rcases qite hf with ⟨c2480, hf⟩ | ⟨c2480, hf⟩
          · refine R_CmEq_t rfl c2480 ?_
            refine R_inc (ls' := [.ref qSCR, .ref 0, .ref 60, .int (l3 + (6 : Int32))]) rfl rfl rfl rfl ?_
            refine R_goto rfl ?_
            exact ih L xs (l3 + (6 : Int32)) h2477 _ hf _ _ hR hE
          · refine R_CmEq_f rfl c2480 ?_
            refine R_I rfl ?_
            obtain rfl := Option.some.inj hf
            obtain ⟨rfl, rfl⟩ := hR _ _ rfl
            exact R_retZ rfl (by decide)
        · skip
          rcases qite hf with ⟨c2481, hf⟩ | ⟨c2481, hf⟩
          · refine R_sw rfl (by rw [c2481]) ?_
            refine R_ldA rfl rfl ?_
            refine R_ldA rfl rfl ?_
            refine R_ldI rfl rfl ?_
            refine R_I rfl ?_
            refine R_bin rfl ?_
            obtain ⟨c2482, hf⟩ := qchk hf
            refine R_sld rfl c2482 ?_
            obtain ⟨⟨x2484, h2483⟩, e2485, hf⟩ := qbind_some hf
            dsimp only at hf
            refine R_callVi (as := [.ref 0, .int (xs (l3 + (1 : Int32)).toNatClampNeg)]) (rest := []) rfl rfl sh_0 rfl rfl rfl rfl (t_X5_thing (N := N) (by omega) (xs (l3 + (1 : Int32)).toNatClampNeg) h e2485) ?_
            refine R_ldA rfl rfl ?_
            refine R_ldA rfl rfl ?_
            refine R_ldI rfl rfl ?_
            refine R_I rfl ?_
            refine R_bin rfl ?_
            obtain ⟨c2486, hf⟩ := qchk hf
            refine R_sld rfl c2486 ?_
            obtain ⟨⟨x2488, h2487⟩, e2489, hf⟩ := qbind_some hf
            dsimp only at hf
            refine R_callVi (as := [.ref 60, .int (xs (l3 + (1 : Int32)).toNatClampNeg)]) (rest := [.int x2484]) rfl rfl sh_60 rfl rfl rfl rfl (t_X6_thing (N := N) (by omega) (xs (l3 + (1 : Int32)).toNatClampNeg) h2483 e2489) ?_
            rcases qite hf with ⟨c2490, hf⟩ | ⟨c2490, hf⟩
            · refine R_CmEq_t rfl c2490 ?_
              refine R_inc (ls' := [.ref qSCR, .ref 0, .ref 60, .int (l3 + (6 : Int32))]) rfl rfl rfl rfl ?_
              refine R_goto rfl ?_
              exact ih L xs (l3 + (6 : Int32)) h2487 _ hf _ _ hR hE
            · refine R_CmEq_f rfl c2490 ?_
              refine R_I rfl ?_
              obtain rfl := Option.some.inj hf
              obtain ⟨rfl, rfl⟩ := hR _ _ rfl
              exact R_retZ rfl (by decide)
          · skip
            rcases qite hf with ⟨c2491, hf⟩ | ⟨c2491, hf⟩
            · refine R_sw rfl (by rw [c2491]) ?_
              refine R_ldA rfl rfl ?_
              refine R_ldA rfl rfl ?_
              refine R_ldI rfl rfl ?_
              refine R_I rfl ?_
              refine R_bin rfl ?_
              obtain ⟨c2492, hf⟩ := qchk hf
              refine R_sld rfl c2492 ?_
              refine R_ldA rfl rfl ?_
              refine R_ldI rfl rfl ?_
              refine R_I rfl ?_
              refine R_bin rfl ?_
              obtain ⟨c2493, hf⟩ := qchk hf
              refine R_sld rfl c2493 ?_
              refine R_ldA rfl rfl ?_
              refine R_ldI rfl rfl ?_
              refine R_I rfl ?_
              refine R_bin rfl ?_
              obtain ⟨c2494, hf⟩ := qchk hf
              refine R_sld rfl c2494 ?_
              obtain ⟨⟨x2496, h2495⟩, e2497, hf⟩ := qbind_some hf
              dsimp only at hf
              refine R_callVi (as := [.ref 0, .int (xs (l3 + (1 : Int32)).toNatClampNeg), .int (xs (l3 + (2 : Int32)).toNatClampNeg), .int (xs (l3 + (3 : Int32)).toNatClampNeg)]) (rest := []) rfl rfl sh_0 rfl rfl rfl rfl (t_X5_worth (by omega) (xs (l3 + (1 : Int32)).toNatClampNeg) (xs (l3 + (2 : Int32)).toNatClampNeg) (xs (l3 + (3 : Int32)).toNatClampNeg) h e2497) ?_
              refine R_ldA rfl rfl ?_
              refine R_ldA rfl rfl ?_
              refine R_ldI rfl rfl ?_
              refine R_I rfl ?_
              refine R_bin rfl ?_
              obtain ⟨c2498, hf⟩ := qchk hf
              refine R_sld rfl c2498 ?_
              refine R_ldA rfl rfl ?_
              refine R_ldI rfl rfl ?_
              refine R_I rfl ?_
              refine R_bin rfl ?_
              obtain ⟨c2499, hf⟩ := qchk hf
              refine R_sld rfl c2499 ?_
              refine R_ldA rfl rfl ?_
              refine R_ldI rfl rfl ?_
              refine R_I rfl ?_
              refine R_bin rfl ?_
              obtain ⟨c2500, hf⟩ := qchk hf
              refine R_sld rfl c2500 ?_
              obtain ⟨⟨x2502, h2501⟩, e2503, hf⟩ := qbind_some hf
              dsimp only at hf
              refine R_callVi (as := [.ref 60, .int (xs (l3 + (1 : Int32)).toNatClampNeg), .int (xs (l3 + (2 : Int32)).toNatClampNeg), .int (xs (l3 + (3 : Int32)).toNatClampNeg)]) (rest := [.int x2496]) rfl rfl sh_60 rfl rfl rfl rfl (t_X6_worth (by omega) (xs (l3 + (1 : Int32)).toNatClampNeg) (xs (l3 + (2 : Int32)).toNatClampNeg) (xs (l3 + (3 : Int32)).toNatClampNeg) h2495 e2503) ?_
              rcases qite hf with ⟨c2504, hf⟩ | ⟨c2504, hf⟩
              · refine R_CmEq_t rfl c2504 ?_
                refine R_inc (ls' := [.ref qSCR, .ref 0, .ref 60, .int (l3 + (6 : Int32))]) rfl rfl rfl rfl ?_
                refine R_goto rfl ?_
                exact ih L xs (l3 + (6 : Int32)) h2501 _ hf _ _ hR hE
              · refine R_CmEq_f rfl c2504 ?_
                refine R_I rfl ?_
                obtain rfl := Option.some.inj hf
                obtain ⟨rfl, rfl⟩ := hR _ _ rfl
                exact R_retZ rfl (by decide)
            · skip
              rcases qite hf with ⟨c2505, hf⟩ | ⟨c2505, hf⟩
              · refine R_sw rfl (by rw [c2505]) ?_
                refine R_ldA rfl rfl ?_
                refine R_ldA rfl rfl ?_
                refine R_ldI rfl rfl ?_
                refine R_I rfl ?_
                refine R_bin rfl ?_
                obtain ⟨c2506, hf⟩ := qchk hf
                refine R_sld rfl c2506 ?_
                refine R_ldA rfl rfl ?_
                refine R_ldI rfl rfl ?_
                refine R_I rfl ?_
                refine R_bin rfl ?_
                obtain ⟨c2507, hf⟩ := qchk hf
                refine R_sld rfl c2507 ?_
                obtain ⟨⟨x2509, h2508⟩, e2510, hf⟩ := qbind_some hf
                dsimp only at hf
                refine R_callVi (as := [.ref 0, .int (xs (l3 + (1 : Int32)).toNatClampNeg), .int (xs (l3 + (2 : Int32)).toNatClampNeg)]) (rest := []) rfl rfl sh_0 rfl rfl rfl rfl (t_X5_suit (N := N) (by omega) (xs (l3 + (1 : Int32)).toNatClampNeg) (xs (l3 + (2 : Int32)).toNatClampNeg) h e2510) ?_
                refine R_ldA rfl rfl ?_
                refine R_ldA rfl rfl ?_
                refine R_ldI rfl rfl ?_
                refine R_I rfl ?_
                refine R_bin rfl ?_
                obtain ⟨c2511, hf⟩ := qchk hf
                refine R_sld rfl c2511 ?_
                refine R_ldA rfl rfl ?_
                refine R_ldI rfl rfl ?_
                refine R_I rfl ?_
                refine R_bin rfl ?_
                obtain ⟨c2512, hf⟩ := qchk hf
                refine R_sld rfl c2512 ?_
                obtain ⟨⟨x2514, h2513⟩, e2515, hf⟩ := qbind_some hf
                dsimp only at hf
                refine R_callVi (as := [.ref 60, .int (xs (l3 + (1 : Int32)).toNatClampNeg), .int (xs (l3 + (2 : Int32)).toNatClampNeg)]) (rest := [.int x2509]) rfl rfl sh_60 rfl rfl rfl rfl (t_X6_suit (N := N) (by omega) (xs (l3 + (1 : Int32)).toNatClampNeg) (xs (l3 + (2 : Int32)).toNatClampNeg) h2508 e2515) ?_
                rcases qite hf with ⟨c2516, hf⟩ | ⟨c2516, hf⟩
                · refine R_CmEq_t rfl c2516 ?_
                  refine R_inc (ls' := [.ref qSCR, .ref 0, .ref 60, .int (l3 + (6 : Int32))]) rfl rfl rfl rfl ?_
                  refine R_goto rfl ?_
                  exact ih L xs (l3 + (6 : Int32)) h2513 _ hf _ _ hR hE
                · refine R_CmEq_f rfl c2516 ?_
                  refine R_I rfl ?_
                  obtain rfl := Option.some.inj hf
                  obtain ⟨rfl, rfl⟩ := hR _ _ rfl
                  exact R_retZ rfl (by decide)
              · skip
                rcases qite hf with ⟨c2517, hf⟩ | ⟨c2517, hf⟩
                · refine R_sw rfl (by rw [c2517]) ?_
                  refine R_ldA rfl rfl ?_
                  refine R_ldA rfl rfl ?_
                  refine R_ldI rfl rfl ?_
                  refine R_I rfl ?_
                  refine R_bin rfl ?_
                  obtain ⟨c2518, hf⟩ := qchk hf
                  refine R_sld rfl c2518 ?_
                  refine R_ldA rfl rfl ?_
                  refine R_ldI rfl rfl ?_
                  refine R_I rfl ?_
                  refine R_bin rfl ?_
                  obtain ⟨c2519, hf⟩ := qchk hf
                  refine R_sld rfl c2519 ?_
                  obtain ⟨⟨x2521, h2520⟩, e2522, hf⟩ := qbind_some hf
                  dsimp only at hf
                  refine R_callVi (as := [.ref 0, .int (xs (l3 + (1 : Int32)).toNatClampNeg), .int (xs (l3 + (2 : Int32)).toNatClampNeg)]) (rest := []) rfl rfl sh_0 rfl rfl rfl rfl (t_X5_told (by omega) (xs (l3 + (1 : Int32)).toNatClampNeg) (xs (l3 + (2 : Int32)).toNatClampNeg) h e2522) ?_
                  refine R_ldA rfl rfl ?_
                  refine R_ldA rfl rfl ?_
                  refine R_ldI rfl rfl ?_
                  refine R_I rfl ?_
                  refine R_bin rfl ?_
                  obtain ⟨c2523, hf⟩ := qchk hf
                  refine R_sld rfl c2523 ?_
                  refine R_ldA rfl rfl ?_
                  refine R_ldI rfl rfl ?_
                  refine R_I rfl ?_
                  refine R_bin rfl ?_
                  obtain ⟨c2524, hf⟩ := qchk hf
                  refine R_sld rfl c2524 ?_
                  obtain ⟨⟨x2526, h2525⟩, e2527, hf⟩ := qbind_some hf
                  dsimp only at hf
                  refine R_callVi (as := [.ref 60, .int (xs (l3 + (1 : Int32)).toNatClampNeg), .int (xs (l3 + (2 : Int32)).toNatClampNeg)]) (rest := [.int x2521]) rfl rfl sh_60 rfl rfl rfl rfl (t_X6_told (by omega) (xs (l3 + (1 : Int32)).toNatClampNeg) (xs (l3 + (2 : Int32)).toNatClampNeg) h2520 e2527) ?_
                  rcases qite hf with ⟨c2528, hf⟩ | ⟨c2528, hf⟩
                  · refine R_CmEq_t rfl c2528 ?_
                    refine R_inc (ls' := [.ref qSCR, .ref 0, .ref 60, .int (l3 + (6 : Int32))]) rfl rfl rfl rfl ?_
                    refine R_goto rfl ?_
                    exact ih L xs (l3 + (6 : Int32)) h2525 _ hf _ _ hR hE
                  · refine R_CmEq_f rfl c2528 ?_
                    refine R_I rfl ?_
                    obtain rfl := Option.some.inj hf
                    obtain ⟨rfl, rfl⟩ := hR _ _ rfl
                    exact R_retZ rfl (by decide)
                · skip
                  rcases qite hf with ⟨c2529, hf⟩ | ⟨c2529, hf⟩
                  · refine R_sw rfl (by rw [c2529]) ?_
                    refine R_ldA rfl rfl ?_
                    refine R_ldA rfl rfl ?_
                    refine R_ldI rfl rfl ?_
                    refine R_I rfl ?_
                    refine R_bin rfl ?_
                    obtain ⟨c2530, hf⟩ := qchk hf
                    refine R_sld rfl c2530 ?_
                    obtain ⟨⟨x2532, h2531⟩, e2533, hf⟩ := qbind_some hf
                    dsimp only at hf
                    refine R_callVi (as := [.ref 0, .int (xs (l3 + (1 : Int32)).toNatClampNeg)]) (rest := []) rfl rfl sh_0 rfl rfl rfl rfl (t_X5_hand (by omega) (xs (l3 + (1 : Int32)).toNatClampNeg) h e2533) ?_
                    refine R_ldA rfl rfl ?_
                    refine R_ldA rfl rfl ?_
                    refine R_ldI rfl rfl ?_
                    refine R_I rfl ?_
                    refine R_bin rfl ?_
                    obtain ⟨c2534, hf⟩ := qchk hf
                    refine R_sld rfl c2534 ?_
                    obtain ⟨⟨x2536, h2535⟩, e2537, hf⟩ := qbind_some hf
                    dsimp only at hf
                    refine R_callVi (as := [.ref 60, .int (xs (l3 + (1 : Int32)).toNatClampNeg)]) (rest := [.int x2532]) rfl rfl sh_60 rfl rfl rfl rfl (t_X6_hand (by omega) (xs (l3 + (1 : Int32)).toNatClampNeg) h2531 e2537) ?_
                    rcases qite hf with ⟨c2538, hf⟩ | ⟨c2538, hf⟩
                    · refine R_CmEq_t rfl c2538 ?_
                      refine R_inc (ls' := [.ref qSCR, .ref 0, .ref 60, .int (l3 + (6 : Int32))]) rfl rfl rfl rfl ?_
                      refine R_goto rfl ?_
                      exact ih L xs (l3 + (6 : Int32)) h2535 _ hf _ _ hR hE
                    · refine R_CmEq_f rfl c2538 ?_
                      refine R_I rfl ?_
                      obtain rfl := Option.some.inj hf
                      obtain ⟨rfl, rfl⟩ := hR _ _ rfl
                      exact R_retZ rfl (by decide)
                  · skip
                    rcases qite hf with ⟨c2539, hf⟩ | ⟨c2539, hf⟩
                    · refine R_sw rfl (by rw [c2539]) ?_
                      refine R_ldA rfl rfl ?_
                      refine R_ldA rfl rfl ?_
                      refine R_ldI rfl rfl ?_
                      refine R_I rfl ?_
                      refine R_bin rfl ?_
                      obtain ⟨c2540, hf⟩ := qchk hf
                      refine R_sld rfl c2540 ?_
                      obtain ⟨⟨x2542, h2541⟩, e2543, hf⟩ := qbind_some hf
                      dsimp only at hf
                      refine R_callVi (as := [.ref 0, .int (xs (l3 + (1 : Int32)).toNatClampNeg)]) (rest := []) rfl rfl sh_0 rfl rfl rfl rfl (t_X5_purse (by omega) (xs (l3 + (1 : Int32)).toNatClampNeg) h e2543) ?_
                      refine R_ldA rfl rfl ?_
                      refine R_ldA rfl rfl ?_
                      refine R_ldI rfl rfl ?_
                      refine R_I rfl ?_
                      refine R_bin rfl ?_
                      obtain ⟨c2544, hf⟩ := qchk hf
                      refine R_sld rfl c2544 ?_
                      obtain ⟨⟨x2546, h2545⟩, e2547, hf⟩ := qbind_some hf
                      dsimp only at hf
                      refine R_callVi (as := [.ref 60, .int (xs (l3 + (1 : Int32)).toNatClampNeg)]) (rest := [.int x2542]) rfl rfl sh_60 rfl rfl rfl rfl (t_X6_purse (by omega) (xs (l3 + (1 : Int32)).toNatClampNeg) h2541 e2547) ?_
                      rcases qite hf with ⟨c2548, hf⟩ | ⟨c2548, hf⟩
                      · refine R_CmEq_t rfl c2548 ?_
                        refine R_inc (ls' := [.ref qSCR, .ref 0, .ref 60, .int (l3 + (6 : Int32))]) rfl rfl rfl rfl ?_
                        refine R_goto rfl ?_
                        exact ih L xs (l3 + (6 : Int32)) h2545 _ hf _ _ hR hE
                      · refine R_CmEq_f rfl c2548 ?_
                        refine R_I rfl ?_
                        obtain rfl := Option.some.inj hf
                        obtain ⟨rfl, rfl⟩ := hR _ _ rfl
                        exact R_retZ rfl (by decide)
                    · skip
                      rcases qite hf with ⟨c2549, hf⟩ | ⟨c2549, hf⟩
                      · refine R_sw rfl (by rw [c2549]) ?_
                        refine R_ldA rfl rfl ?_
                        refine R_ldA rfl rfl ?_
                        refine R_ldI rfl rfl ?_
                        refine R_I rfl ?_
                        refine R_bin rfl ?_
                        obtain ⟨c2550, hf⟩ := qchk hf
                        refine R_sld rfl c2550 ?_
                        obtain ⟨⟨x2552, h2551⟩, e2553, hf⟩ := qbind_some hf
                        dsimp only at hf
                        refine R_callVi (as := [.ref 0, .int (xs (l3 + (1 : Int32)).toNatClampNeg)]) (rest := []) rfl rfl sh_0 rfl rfl rfl rfl (t_X5_value (N := N) (by omega) (xs (l3 + (1 : Int32)).toNatClampNeg) h e2553) ?_
                        refine R_ldA rfl rfl ?_
                        refine R_ldA rfl rfl ?_
                        refine R_ldI rfl rfl ?_
                        refine R_I rfl ?_
                        refine R_bin rfl ?_
                        obtain ⟨c2554, hf⟩ := qchk hf
                        refine R_sld rfl c2554 ?_
                        obtain ⟨⟨x2556, h2555⟩, e2557, hf⟩ := qbind_some hf
                        dsimp only at hf
                        refine R_callVi (as := [.ref 60, .int (xs (l3 + (1 : Int32)).toNatClampNeg)]) (rest := [.int x2552]) rfl rfl sh_60 rfl rfl rfl rfl (t_X6_value (N := N) (by omega) (xs (l3 + (1 : Int32)).toNatClampNeg) h2551 e2557) ?_
                        rcases qite hf with ⟨c2558, hf⟩ | ⟨c2558, hf⟩
                        · refine R_CmEq_t rfl c2558 ?_
                          refine R_inc (ls' := [.ref qSCR, .ref 0, .ref 60, .int (l3 + (6 : Int32))]) rfl rfl rfl rfl ?_
                          refine R_goto rfl ?_
                          exact ih L xs (l3 + (6 : Int32)) h2555 _ hf _ _ hR hE
                        · refine R_CmEq_f rfl c2558 ?_
                          refine R_I rfl ?_
                          obtain rfl := Option.some.inj hf
                          obtain ⟨rfl, rfl⟩ := hR _ _ rfl
                          exact R_retZ rfl (by decide)
                      · skip
                        rcases qite hf with ⟨c2559, hf⟩ | ⟨c2559, hf⟩
                        · refine R_sw rfl (by rw [c2559]) ?_
                          refine R_ldA rfl rfl ?_
                          refine R_ldA rfl rfl ?_
                          refine R_ldI rfl rfl ?_
                          refine R_I rfl ?_
                          refine R_bin rfl ?_
                          obtain ⟨c2560, hf⟩ := qchk hf
                          refine R_sld rfl c2560 ?_
                          refine R_i2l rfl ?_
                          refine R_I rfl ?_
                          refine R_lsh rfl ?_
                          refine R_ldA rfl rfl ?_
                          refine R_ldI rfl rfl ?_
                          refine R_I rfl ?_
                          refine R_bin rfl ?_
                          obtain ⟨c2561, hf⟩ := qchk hf
                          refine R_sld rfl c2561 ?_
                          refine R_i2l rfl ?_
                          refine R_L rfl ?_
                          refine R_lbin rfl ?_
                          refine R_lbin rfl ?_
                          refine R_ldA rfl rfl ?_
                          refine R_ldI rfl rfl ?_
                          refine R_I rfl ?_
                          refine R_bin rfl ?_
                          obtain ⟨c2562, hf⟩ := qchk hf
                          refine R_sld rfl c2562 ?_
                          obtain ⟨⟨x2564, h2563⟩, e2565, hf⟩ := qbind_some hf
                          dsimp only at hf
                          refine R_callVi (as := [.ref 0, .long (((xs (l3 + (1 : Int32)).toNatClampNeg).toInt64 <<< ((32 : Int32).toInt64 &&& 63)) ||| ((xs (l3 + (2 : Int32)).toNatClampNeg).toInt64 &&& (4294967295 : Int64))), .int (xs (l3 + (3 : Int32)).toNatClampNeg)]) (rest := []) rfl rfl sh_0 rfl rfl rfl rfl (t_X5_type (N := N) (by omega) (((xs (l3 + (1 : Int32)).toNatClampNeg).toInt64 <<< ((32 : Int32).toInt64 &&& 63)) ||| ((xs (l3 + (2 : Int32)).toNatClampNeg).toInt64 &&& (4294967295 : Int64))) (xs (l3 + (3 : Int32)).toNatClampNeg) h e2565) ?_
                          refine R_ldA rfl rfl ?_
                          refine R_ldA rfl rfl ?_
                          refine R_ldI rfl rfl ?_
                          refine R_I rfl ?_
                          refine R_bin rfl ?_
                          obtain ⟨c2566, hf⟩ := qchk hf
                          refine R_sld rfl c2566 ?_
                          refine R_i2l rfl ?_
                          refine R_I rfl ?_
                          refine R_lsh rfl ?_
                          refine R_ldA rfl rfl ?_
                          refine R_ldI rfl rfl ?_
                          refine R_I rfl ?_
                          refine R_bin rfl ?_
                          obtain ⟨c2567, hf⟩ := qchk hf
                          refine R_sld rfl c2567 ?_
                          refine R_i2l rfl ?_
                          refine R_L rfl ?_
                          refine R_lbin rfl ?_
                          refine R_lbin rfl ?_
                          refine R_ldA rfl rfl ?_
                          refine R_ldI rfl rfl ?_
                          refine R_I rfl ?_
                          refine R_bin rfl ?_
                          obtain ⟨c2568, hf⟩ := qchk hf
                          refine R_sld rfl c2568 ?_
                          obtain ⟨⟨x2570, h2569⟩, e2571, hf⟩ := qbind_some hf
                          dsimp only at hf
                          refine R_callVi (as := [.ref 60, .long (((xs (l3 + (1 : Int32)).toNatClampNeg).toInt64 <<< ((32 : Int32).toInt64 &&& 63)) ||| ((xs (l3 + (2 : Int32)).toNatClampNeg).toInt64 &&& (4294967295 : Int64))), .int (xs (l3 + (3 : Int32)).toNatClampNeg)]) (rest := [.int x2564]) rfl rfl sh_60 rfl rfl rfl rfl (t_X6_type (N := N) (by omega) (((xs (l3 + (1 : Int32)).toNatClampNeg).toInt64 <<< ((32 : Int32).toInt64 &&& 63)) ||| ((xs (l3 + (2 : Int32)).toNatClampNeg).toInt64 &&& (4294967295 : Int64))) (xs (l3 + (3 : Int32)).toNatClampNeg) h2563 e2571) ?_
                          rcases qite hf with ⟨c2572, hf⟩ | ⟨c2572, hf⟩
                          · refine R_CmEq_t rfl c2572 ?_
                            refine R_inc (ls' := [.ref qSCR, .ref 0, .ref 60, .int (l3 + (6 : Int32))]) rfl rfl rfl rfl ?_
                            refine R_goto rfl ?_
                            exact ih L xs (l3 + (6 : Int32)) h2569 _ hf _ _ hR hE
                          · refine R_CmEq_f rfl c2572 ?_
                            refine R_I rfl ?_
                            obtain rfl := Option.some.inj hf
                            obtain ⟨rfl, rfl⟩ := hR _ _ rfl
                            exact R_retZ rfl (by decide)
                        · skip
                          rcases qite hf with ⟨c2573, hf⟩ | ⟨c2573, hf⟩
                          · refine R_sw rfl (by rw [c2573]) ?_
                            refine R_ldA rfl rfl ?_
                            obtain ⟨⟨x2575, h2574⟩, e2576, hf⟩ := qbind_some hf
                            dsimp only at hf
                            refine R_callVi (as := [.ref 0]) (rest := []) rfl rfl sh_0 rfl rfl rfl rfl (t_X5_village (N := N) (by omega)  h e2576) ?_
                            refine R_ldA rfl rfl ?_
                            obtain ⟨⟨x2578, h2577⟩, e2579, hf⟩ := qbind_some hf
                            dsimp only at hf
                            refine R_callVi (as := [.ref 60]) (rest := [.int x2575]) rfl rfl sh_60 rfl rfl rfl rfl (t_X6_village (N := N) (by omega)  h2574 e2579) ?_
                            rcases qite hf with ⟨c2580, hf⟩ | ⟨c2580, hf⟩
                            · refine R_CmEq_t rfl c2580 ?_
                              refine R_inc (ls' := [.ref qSCR, .ref 0, .ref 60, .int (l3 + (6 : Int32))]) rfl rfl rfl rfl ?_
                              refine R_goto rfl ?_
                              exact ih L xs (l3 + (6 : Int32)) h2577 _ hf _ _ hR hE
                            · refine R_CmEq_f rfl c2580 ?_
                              refine R_I rfl ?_
                              obtain rfl := Option.some.inj hf
                              obtain ⟨rfl, rfl⟩ := hR _ _ rfl
                              exact R_retZ rfl (by decide)
                          · skip
                            rcases qite hf with ⟨c2581, hf⟩ | ⟨c2581, hf⟩
                            · refine R_sw rfl (by rw [c2581]) ?_
                              refine R_ldA rfl rfl ?_
                              obtain ⟨⟨x2583, h2582⟩, e2584, hf⟩ := qbind_some hf
                              dsimp only at hf
                              refine R_callVi (as := [.ref 0]) (rest := []) rfl rfl sh_0 rfl rfl rfl rfl (t_X5_suits (N := N) (by omega)  h e2584) ?_
                              refine R_ldA rfl rfl ?_
                              obtain ⟨⟨x2586, h2585⟩, e2587, hf⟩ := qbind_some hf
                              dsimp only at hf
                              refine R_callVi (as := [.ref 60]) (rest := [.int x2583]) rfl rfl sh_60 rfl rfl rfl rfl (t_X6_suits (N := N) (by omega)  h2582 e2587) ?_
                              rcases qite hf with ⟨c2588, hf⟩ | ⟨c2588, hf⟩
                              · refine R_CmEq_t rfl c2588 ?_
                                refine R_inc (ls' := [.ref qSCR, .ref 0, .ref 60, .int (l3 + (6 : Int32))]) rfl rfl rfl rfl ?_
                                refine R_goto rfl ?_
                                exact ih L xs (l3 + (6 : Int32)) h2585 _ hf _ _ hR hE
                              · refine R_CmEq_f rfl c2588 ?_
                                refine R_I rfl ?_
                                obtain rfl := Option.some.inj hf
                                obtain ⟨rfl, rfl⟩ := hR _ _ rfl
                                exact R_retZ rfl (by decide)
                            · skip
                              rcases qite hf with ⟨c2589, hf⟩ | ⟨c2589, hf⟩
                              · refine R_sw rfl (by rw [c2589]) ?_
                                refine R_ldA rfl rfl ?_
                                refine R_ldA rfl rfl ?_
                                refine R_ldI rfl rfl ?_
                                refine R_I rfl ?_
                                refine R_bin rfl ?_
                                obtain ⟨c2590, hf⟩ := qchk hf
                                refine R_sld rfl c2590 ?_
                                obtain ⟨⟨x2592, h2591⟩, e2593, hf⟩ := qbind_some hf
                                dsimp only at hf
                                refine R_callVi (as := [.ref 0, .int (xs (l3 + (1 : Int32)).toNatClampNeg)]) (rest := []) rfl rfl sh_0 rfl rfl rfl rfl (t_X5_count (N := N) (by omega) (xs (l3 + (1 : Int32)).toNatClampNeg) h e2593) ?_
                                refine R_ldA rfl rfl ?_
                                refine R_ldA rfl rfl ?_
                                refine R_ldI rfl rfl ?_
                                refine R_I rfl ?_
                                refine R_bin rfl ?_
                                obtain ⟨c2594, hf⟩ := qchk hf
                                refine R_sld rfl c2594 ?_
                                obtain ⟨⟨x2596, h2595⟩, e2597, hf⟩ := qbind_some hf
                                dsimp only at hf
                                refine R_callVi (as := [.ref 60, .int (xs (l3 + (1 : Int32)).toNatClampNeg)]) (rest := [.int x2592]) rfl rfl sh_60 rfl rfl rfl rfl (t_X6_count (N := N) (by omega) (xs (l3 + (1 : Int32)).toNatClampNeg) h2591 e2597) ?_
                                rcases qite hf with ⟨c2598, hf⟩ | ⟨c2598, hf⟩
                                · refine R_CmEq_t rfl c2598 ?_
                                  refine R_inc (ls' := [.ref qSCR, .ref 0, .ref 60, .int (l3 + (6 : Int32))]) rfl rfl rfl rfl ?_
                                  refine R_goto rfl ?_
                                  exact ih L xs (l3 + (6 : Int32)) h2595 _ hf _ _ hR hE
                                · refine R_CmEq_f rfl c2598 ?_
                                  refine R_I rfl ?_
                                  obtain rfl := Option.some.inj hf
                                  obtain ⟨rfl, rfl⟩ := hR _ _ rfl
                                  exact R_retZ rfl (by decide)
                              · skip
                                rcases qite hf with ⟨c2599, hf⟩ | ⟨c2599, hf⟩
                                · refine R_sw rfl (by rw [c2599]) ?_
                                  refine R_ldA rfl rfl ?_
                                  refine R_ldA rfl rfl ?_
                                  refine R_ldI rfl rfl ?_
                                  refine R_I rfl ?_
                                  refine R_bin rfl ?_
                                  obtain ⟨c2600, hf⟩ := qchk hf
                                  refine R_sld rfl c2600 ?_
                                  refine R_ldA rfl rfl ?_
                                  refine R_ldI rfl rfl ?_
                                  refine R_I rfl ?_
                                  refine R_bin rfl ?_
                                  obtain ⟨c2601, hf⟩ := qchk hf
                                  refine R_sld rfl c2601 ?_
                                  refine R_ldA rfl rfl ?_
                                  refine R_ldI rfl rfl ?_
                                  refine R_I rfl ?_
                                  refine R_bin rfl ?_
                                  obtain ⟨c2602, hf⟩ := qchk hf
                                  refine R_sld rfl c2602 ?_
                                  obtain ⟨⟨x2604, h2603⟩, e2605, hf⟩ := qbind_some hf
                                  dsimp only at hf
                                  refine R_callVi (as := [.ref 0, .int (xs (l3 + (1 : Int32)).toNatClampNeg), .int (xs (l3 + (2 : Int32)).toNatClampNeg), .int (xs (l3 + (3 : Int32)).toNatClampNeg)]) (rest := []) rfl rfl sh_0 rfl rfl rfl rfl (t_X5_sale (N := N) (by omega) (xs (l3 + (1 : Int32)).toNatClampNeg) (xs (l3 + (2 : Int32)).toNatClampNeg) (xs (l3 + (3 : Int32)).toNatClampNeg) h e2605) ?_
                                  refine R_ldA rfl rfl ?_
                                  refine R_ldA rfl rfl ?_
                                  refine R_ldI rfl rfl ?_
                                  refine R_I rfl ?_
                                  refine R_bin rfl ?_
                                  obtain ⟨c2606, hf⟩ := qchk hf
                                  refine R_sld rfl c2606 ?_
                                  refine R_ldA rfl rfl ?_
                                  refine R_ldI rfl rfl ?_
                                  refine R_I rfl ?_
                                  refine R_bin rfl ?_
                                  obtain ⟨c2607, hf⟩ := qchk hf
                                  refine R_sld rfl c2607 ?_
                                  refine R_ldA rfl rfl ?_
                                  refine R_ldI rfl rfl ?_
                                  refine R_I rfl ?_
                                  refine R_bin rfl ?_
                                  obtain ⟨c2608, hf⟩ := qchk hf
                                  refine R_sld rfl c2608 ?_
                                  obtain ⟨⟨x2610, h2609⟩, e2611, hf⟩ := qbind_some hf
                                  dsimp only at hf
                                  refine R_callVi (as := [.ref 60, .int (xs (l3 + (1 : Int32)).toNatClampNeg), .int (xs (l3 + (2 : Int32)).toNatClampNeg), .int (xs (l3 + (3 : Int32)).toNatClampNeg)]) (rest := [.int x2604]) rfl rfl sh_60 rfl rfl rfl rfl (t_X6_sale (N := N) (by omega) (xs (l3 + (1 : Int32)).toNatClampNeg) (xs (l3 + (2 : Int32)).toNatClampNeg) (xs (l3 + (3 : Int32)).toNatClampNeg) h2603 e2611) ?_
                                  rcases qite hf with ⟨c2612, hf⟩ | ⟨c2612, hf⟩
                                  · refine R_CmEq_t rfl c2612 ?_
                                    refine R_inc (ls' := [.ref qSCR, .ref 0, .ref 60, .int (l3 + (6 : Int32))]) rfl rfl rfl rfl ?_
                                    refine R_goto rfl ?_
                                    exact ih L xs (l3 + (6 : Int32)) h2609 _ hf _ _ hR hE
                                  · refine R_CmEq_f rfl c2612 ?_
                                    refine R_I rfl ?_
                                    obtain rfl := Option.some.inj hf
                                    obtain ⟨rfl, rfl⟩ := hR _ _ rfl
                                    exact R_retZ rfl (by decide)
                                · skip
                                  rcases qite hf with ⟨c2613, hf⟩ | ⟨c2613, hf⟩
                                  · refine R_sw rfl (by rw [c2613]) ?_
                                    refine R_ldA rfl rfl ?_
                                    refine R_ldA rfl rfl ?_
                                    refine R_ldI rfl rfl ?_
                                    refine R_I rfl ?_
                                    refine R_bin rfl ?_
                                    obtain ⟨c2614, hf⟩ := qchk hf
                                    refine R_sld rfl c2614 ?_
                                    refine R_ldA rfl rfl ?_
                                    refine R_ldI rfl rfl ?_
                                    refine R_I rfl ?_
                                    refine R_bin rfl ?_
                                    obtain ⟨c2615, hf⟩ := qchk hf
                                    refine R_sld rfl c2615 ?_
                                    obtain ⟨⟨x2617, h2616⟩, e2618, hf⟩ := qbind_some hf
                                    dsimp only at hf
                                    refine R_callVi (as := [.ref 0, .int (xs (l3 + (1 : Int32)).toNatClampNeg), .int (xs (l3 + (2 : Int32)).toNatClampNeg)]) (rest := []) rfl rfl sh_0 rfl rfl rfl rfl (t_X5_swap (N := N) (by omega) (xs (l3 + (1 : Int32)).toNatClampNeg) (xs (l3 + (2 : Int32)).toNatClampNeg) h e2618) ?_
                                    refine R_ldA rfl rfl ?_
                                    refine R_ldA rfl rfl ?_
                                    refine R_ldI rfl rfl ?_
                                    refine R_I rfl ?_
                                    refine R_bin rfl ?_
                                    obtain ⟨c2619, hf⟩ := qchk hf
                                    refine R_sld rfl c2619 ?_
                                    refine R_ldA rfl rfl ?_
                                    refine R_ldI rfl rfl ?_
                                    refine R_I rfl ?_
                                    refine R_bin rfl ?_
                                    obtain ⟨c2620, hf⟩ := qchk hf
                                    refine R_sld rfl c2620 ?_
                                    obtain ⟨⟨x2622, h2621⟩, e2623, hf⟩ := qbind_some hf
                                    dsimp only at hf
                                    refine R_callVi (as := [.ref 60, .int (xs (l3 + (1 : Int32)).toNatClampNeg), .int (xs (l3 + (2 : Int32)).toNatClampNeg)]) (rest := [.int x2617]) rfl rfl sh_60 rfl rfl rfl rfl (t_X6_swap (N := N) (by omega) (xs (l3 + (1 : Int32)).toNatClampNeg) (xs (l3 + (2 : Int32)).toNatClampNeg) h2616 e2623) ?_
                                    rcases qite hf with ⟨c2624, hf⟩ | ⟨c2624, hf⟩
                                    · refine R_CmEq_t rfl c2624 ?_
                                      refine R_inc (ls' := [.ref qSCR, .ref 0, .ref 60, .int (l3 + (6 : Int32))]) rfl rfl rfl rfl ?_
                                      refine R_goto rfl ?_
                                      exact ih L xs (l3 + (6 : Int32)) h2621 _ hf _ _ hR hE
                                    · refine R_CmEq_f rfl c2624 ?_
                                      refine R_I rfl ?_
                                      obtain rfl := Option.some.inj hf
                                      obtain ⟨rfl, rfl⟩ := hR _ _ rfl
                                      exact R_retZ rfl (by decide)
                                  · skip
                                    rcases qite hf with ⟨c2625, hf⟩ | ⟨c2625, hf⟩
                                    · refine R_sw rfl (by rw [c2625]) ?_
                                      refine R_ldA rfl rfl ?_
                                      refine R_ldA rfl rfl ?_
                                      refine R_ldI rfl rfl ?_
                                      refine R_I rfl ?_
                                      refine R_bin rfl ?_
                                      obtain ⟨c2626, hf⟩ := qchk hf
                                      refine R_sld rfl c2626 ?_
                                      obtain ⟨⟨x2628, h2627⟩, e2629, hf⟩ := qbind_some hf
                                      dsimp only at hf
                                      refine R_callVi (as := [.ref 0, .int (xs (l3 + (1 : Int32)).toNatClampNeg)]) (rest := []) rfl rfl sh_0 rfl rfl rfl rfl (t_X5_give (N := N) (by omega) (xs (l3 + (1 : Int32)).toNatClampNeg) h e2629) ?_
                                      refine R_ldA rfl rfl ?_
                                      refine R_ldA rfl rfl ?_
                                      refine R_ldI rfl rfl ?_
                                      refine R_I rfl ?_
                                      refine R_bin rfl ?_
                                      obtain ⟨c2630, hf⟩ := qchk hf
                                      refine R_sld rfl c2630 ?_
                                      obtain ⟨⟨x2632, h2631⟩, e2633, hf⟩ := qbind_some hf
                                      dsimp only at hf
                                      refine R_callVi (as := [.ref 60, .int (xs (l3 + (1 : Int32)).toNatClampNeg)]) (rest := [.int x2628]) rfl rfl sh_60 rfl rfl rfl rfl (t_X6_give (N := N) (by omega) (xs (l3 + (1 : Int32)).toNatClampNeg) h2627 e2633) ?_
                                      rcases qite hf with ⟨c2634, hf⟩ | ⟨c2634, hf⟩
                                      · refine R_CmEq_t rfl c2634 ?_
                                        refine R_inc (ls' := [.ref qSCR, .ref 0, .ref 60, .int (l3 + (6 : Int32))]) rfl rfl rfl rfl ?_
                                        refine R_goto rfl ?_
                                        exact ih L xs (l3 + (6 : Int32)) h2631 _ hf _ _ hR hE
                                      · refine R_CmEq_f rfl c2634 ?_
                                        refine R_I rfl ?_
                                        obtain rfl := Option.some.inj hf
                                        obtain ⟨rfl, rfl⟩ := hR _ _ rfl
                                        exact R_retZ rfl (by decide)
                                    · skip
                                      rcases qite hf with ⟨c2635, hf⟩ | ⟨c2635, hf⟩
                                      · refine R_sw rfl (by rw [c2635]) ?_
                                        refine R_ldA rfl rfl ?_
                                        refine R_ldA rfl rfl ?_
                                        refine R_ldI rfl rfl ?_
                                        refine R_I rfl ?_
                                        refine R_bin rfl ?_
                                        obtain ⟨c2636, hf⟩ := qchk hf
                                        refine R_sld rfl c2636 ?_
                                        refine R_ldA rfl rfl ?_
                                        refine R_ldI rfl rfl ?_
                                        refine R_I rfl ?_
                                        refine R_bin rfl ?_
                                        obtain ⟨c2637, hf⟩ := qchk hf
                                        refine R_sld rfl c2637 ?_
                                        obtain ⟨⟨x2639, h2638⟩, e2640, hf⟩ := qbind_some hf
                                        dsimp only at hf
                                        refine R_callVi (as := [.ref 0, .int (xs (l3 + (1 : Int32)).toNatClampNeg), .int (xs (l3 + (2 : Int32)).toNatClampNeg)]) (rest := []) rfl rfl sh_0 rfl rfl rfl rfl (t_X5_wed (N := N) (by omega) (xs (l3 + (1 : Int32)).toNatClampNeg) (xs (l3 + (2 : Int32)).toNatClampNeg) h e2640) ?_
                                        refine R_ldA rfl rfl ?_
                                        refine R_ldA rfl rfl ?_
                                        refine R_ldI rfl rfl ?_
                                        refine R_I rfl ?_
                                        refine R_bin rfl ?_
                                        obtain ⟨c2641, hf⟩ := qchk hf
                                        refine R_sld rfl c2641 ?_
                                        refine R_ldA rfl rfl ?_
                                        refine R_ldI rfl rfl ?_
                                        refine R_I rfl ?_
                                        refine R_bin rfl ?_
                                        obtain ⟨c2642, hf⟩ := qchk hf
                                        refine R_sld rfl c2642 ?_
                                        obtain ⟨⟨x2644, h2643⟩, e2645, hf⟩ := qbind_some hf
                                        dsimp only at hf
                                        refine R_callVi (as := [.ref 60, .int (xs (l3 + (1 : Int32)).toNatClampNeg), .int (xs (l3 + (2 : Int32)).toNatClampNeg)]) (rest := [.int x2639]) rfl rfl sh_60 rfl rfl rfl rfl (t_X6_wed (N := N) (by omega) (xs (l3 + (1 : Int32)).toNatClampNeg) (xs (l3 + (2 : Int32)).toNatClampNeg) h2638 e2645) ?_
                                        rcases qite hf with ⟨c2646, hf⟩ | ⟨c2646, hf⟩
                                        · refine R_CmEq_t rfl c2646 ?_
                                          refine R_inc (ls' := [.ref qSCR, .ref 0, .ref 60, .int (l3 + (6 : Int32))]) rfl rfl rfl rfl ?_
                                          refine R_goto rfl ?_
                                          exact ih L xs (l3 + (6 : Int32)) h2643 _ hf _ _ hR hE
                                        · refine R_CmEq_f rfl c2646 ?_
                                          refine R_I rfl ?_
                                          obtain rfl := Option.some.inj hf
                                          obtain ⟨rfl, rfl⟩ := hR _ _ rfl
                                          exact R_retZ rfl (by decide)
                                      · skip
                                        rcases qite hf with ⟨c2647, hf⟩ | ⟨c2647, hf⟩
                                        · refine R_sw rfl (by rw [c2647]) ?_
                                          refine R_ldA rfl rfl ?_
                                          refine R_ldA rfl rfl ?_
                                          refine R_ldI rfl rfl ?_
                                          refine R_I rfl ?_
                                          refine R_bin rfl ?_
                                          obtain ⟨c2648, hf⟩ := qchk hf
                                          refine R_sld rfl c2648 ?_
                                          refine R_ldA rfl rfl ?_
                                          refine R_ldI rfl rfl ?_
                                          refine R_I rfl ?_
                                          refine R_bin rfl ?_
                                          obtain ⟨c2649, hf⟩ := qchk hf
                                          refine R_sld rfl c2649 ?_
                                          obtain ⟨⟨x2651, h2650⟩, e2652, hf⟩ := qbind_some hf
                                          dsimp only at hf
                                          refine R_callVi (as := [.ref 0, .int (xs (l3 + (1 : Int32)).toNatClampNeg), .int (xs (l3 + (2 : Int32)).toNatClampNeg)]) (rest := []) rfl rfl sh_0 rfl rfl rfl rfl (t_X5_part (N := N) (by omega) (xs (l3 + (1 : Int32)).toNatClampNeg) (xs (l3 + (2 : Int32)).toNatClampNeg) h e2652) ?_
                                          refine R_ldA rfl rfl ?_
                                          refine R_ldA rfl rfl ?_
                                          refine R_ldI rfl rfl ?_
                                          refine R_I rfl ?_
                                          refine R_bin rfl ?_
                                          obtain ⟨c2653, hf⟩ := qchk hf
                                          refine R_sld rfl c2653 ?_
                                          refine R_ldA rfl rfl ?_
                                          refine R_ldI rfl rfl ?_
                                          refine R_I rfl ?_
                                          refine R_bin rfl ?_
                                          obtain ⟨c2654, hf⟩ := qchk hf
                                          refine R_sld rfl c2654 ?_
                                          obtain ⟨⟨x2656, h2655⟩, e2657, hf⟩ := qbind_some hf
                                          dsimp only at hf
                                          refine R_callVi (as := [.ref 60, .int (xs (l3 + (1 : Int32)).toNatClampNeg), .int (xs (l3 + (2 : Int32)).toNatClampNeg)]) (rest := [.int x2651]) rfl rfl sh_60 rfl rfl rfl rfl (t_X6_part (N := N) (by omega) (xs (l3 + (1 : Int32)).toNatClampNeg) (xs (l3 + (2 : Int32)).toNatClampNeg) h2650 e2657) ?_
                                          rcases qite hf with ⟨c2658, hf⟩ | ⟨c2658, hf⟩
                                          · refine R_CmEq_t rfl c2658 ?_
                                            refine R_inc (ls' := [.ref qSCR, .ref 0, .ref 60, .int (l3 + (6 : Int32))]) rfl rfl rfl rfl ?_
                                            refine R_goto rfl ?_
                                            exact ih L xs (l3 + (6 : Int32)) h2655 _ hf _ _ hR hE
                                          · refine R_CmEq_f rfl c2658 ?_
                                            refine R_I rfl ?_
                                            obtain rfl := Option.some.inj hf
                                            obtain ⟨rfl, rfl⟩ := hR _ _ rfl
                                            exact R_retZ rfl (by decide)
                                        · skip
                                          rcases qite hf with ⟨c2659, hf⟩ | ⟨c2659, hf⟩
                                          · refine R_sw rfl (by rw [c2659]) ?_
                                            refine R_ldA rfl rfl ?_
                                            refine R_ldA rfl rfl ?_
                                            refine R_ldI rfl rfl ?_
                                            refine R_I rfl ?_
                                            refine R_bin rfl ?_
                                            obtain ⟨c2660, hf⟩ := qchk hf
                                            refine R_sld rfl c2660 ?_
                                            refine R_ldA rfl rfl ?_
                                            refine R_ldI rfl rfl ?_
                                            refine R_I rfl ?_
                                            refine R_bin rfl ?_
                                            obtain ⟨c2661, hf⟩ := qchk hf
                                            refine R_sld rfl c2661 ?_
                                            refine R_ldA rfl rfl ?_
                                            refine R_ldI rfl rfl ?_
                                            refine R_I rfl ?_
                                            refine R_bin rfl ?_
                                            obtain ⟨c2662, hf⟩ := qchk hf
                                            refine R_sld rfl c2662 ?_
                                            obtain ⟨⟨x2664, h2663⟩, e2665, hf⟩ := qbind_some hf
                                            dsimp only at hf
                                            refine R_callVi (as := [.ref 0, .int (xs (l3 + (1 : Int32)).toNatClampNeg), .int (xs (l3 + (2 : Int32)).toNatClampNeg), .int (xs (l3 + (3 : Int32)).toNatClampNeg)]) (rest := []) rfl rfl sh_0 rfl rfl rfl rfl (t_X5_gain (N := N) (by omega) (xs (l3 + (1 : Int32)).toNatClampNeg) (xs (l3 + (2 : Int32)).toNatClampNeg) (xs (l3 + (3 : Int32)).toNatClampNeg) h e2665) ?_
                                            refine R_ldA rfl rfl ?_
                                            refine R_ldA rfl rfl ?_
                                            refine R_ldI rfl rfl ?_
                                            refine R_I rfl ?_
                                            refine R_bin rfl ?_
                                            obtain ⟨c2666, hf⟩ := qchk hf
                                            refine R_sld rfl c2666 ?_
                                            refine R_ldA rfl rfl ?_
                                            refine R_ldI rfl rfl ?_
                                            refine R_I rfl ?_
                                            refine R_bin rfl ?_
                                            obtain ⟨c2667, hf⟩ := qchk hf
                                            refine R_sld rfl c2667 ?_
                                            refine R_ldA rfl rfl ?_
                                            refine R_ldI rfl rfl ?_
                                            refine R_I rfl ?_
                                            refine R_bin rfl ?_
                                            obtain ⟨c2668, hf⟩ := qchk hf
                                            refine R_sld rfl c2668 ?_
                                            obtain ⟨⟨x2670, h2669⟩, e2671, hf⟩ := qbind_some hf
                                            dsimp only at hf
                                            refine R_callVi (as := [.ref 60, .int (xs (l3 + (1 : Int32)).toNatClampNeg), .int (xs (l3 + (2 : Int32)).toNatClampNeg), .int (xs (l3 + (3 : Int32)).toNatClampNeg)]) (rest := [.int x2664]) rfl rfl sh_60 rfl rfl rfl rfl (t_X6_gain (N := N) (by omega) (xs (l3 + (1 : Int32)).toNatClampNeg) (xs (l3 + (2 : Int32)).toNatClampNeg) (xs (l3 + (3 : Int32)).toNatClampNeg) h2663 e2671) ?_
                                            rcases qite hf with ⟨c2672, hf⟩ | ⟨c2672, hf⟩
                                            · refine R_CmEq_t rfl c2672 ?_
                                              refine R_inc (ls' := [.ref qSCR, .ref 0, .ref 60, .int (l3 + (6 : Int32))]) rfl rfl rfl rfl ?_
                                              refine R_goto rfl ?_
                                              exact ih L xs (l3 + (6 : Int32)) h2669 _ hf _ _ hR hE
                                            · refine R_CmEq_f rfl c2672 ?_
                                              refine R_I rfl ?_
                                              obtain rfl := Option.some.inj hf
                                              obtain ⟨rfl, rfl⟩ := hR _ _ rfl
                                              exact R_retZ rfl (by decide)
                                          · skip
                                            rcases qite hf with ⟨c2673, hf⟩ | ⟨c2673, hf⟩
                                            · refine R_sw rfl (by rw [c2673]) ?_
                                              refine R_ldA rfl rfl ?_
                                              refine R_ldA rfl rfl ?_
                                              refine R_ldI rfl rfl ?_
                                              refine R_I rfl ?_
                                              refine R_bin rfl ?_
                                              obtain ⟨c2674, hf⟩ := qchk hf
                                              refine R_sld rfl c2674 ?_
                                              refine R_ldA rfl rfl ?_
                                              refine R_ldI rfl rfl ?_
                                              refine R_I rfl ?_
                                              refine R_bin rfl ?_
                                              obtain ⟨c2675, hf⟩ := qchk hf
                                              refine R_sld rfl c2675 ?_
                                              obtain ⟨⟨x2677, h2676⟩, e2678, hf⟩ := qbind_some hf
                                              dsimp only at hf
                                              refine R_callVi (as := [.ref 0, .int (xs (l3 + (1 : Int32)).toNatClampNeg), .int (xs (l3 + (2 : Int32)).toNatClampNeg)]) (rest := []) rfl rfl sh_0 rfl rfl rfl rfl (t_X5_agreed (N := N) (by omega) (xs (l3 + (1 : Int32)).toNatClampNeg) (xs (l3 + (2 : Int32)).toNatClampNeg) h e2678) ?_
                                              refine R_ldA rfl rfl ?_
                                              refine R_ldA rfl rfl ?_
                                              refine R_ldI rfl rfl ?_
                                              refine R_I rfl ?_
                                              refine R_bin rfl ?_
                                              obtain ⟨c2679, hf⟩ := qchk hf
                                              refine R_sld rfl c2679 ?_
                                              refine R_ldA rfl rfl ?_
                                              refine R_ldI rfl rfl ?_
                                              refine R_I rfl ?_
                                              refine R_bin rfl ?_
                                              obtain ⟨c2680, hf⟩ := qchk hf
                                              refine R_sld rfl c2680 ?_
                                              obtain ⟨⟨x2682, h2681⟩, e2683, hf⟩ := qbind_some hf
                                              dsimp only at hf
                                              refine R_callVi (as := [.ref 60, .int (xs (l3 + (1 : Int32)).toNatClampNeg), .int (xs (l3 + (2 : Int32)).toNatClampNeg)]) (rest := [.int x2677]) rfl rfl sh_60 rfl rfl rfl rfl (t_X6_agreed (N := N) (by omega) (xs (l3 + (1 : Int32)).toNatClampNeg) (xs (l3 + (2 : Int32)).toNatClampNeg) h2676 e2683) ?_
                                              rcases qite hf with ⟨c2684, hf⟩ | ⟨c2684, hf⟩
                                              · refine R_CmEq_t rfl c2684 ?_
                                                refine R_inc (ls' := [.ref qSCR, .ref 0, .ref 60, .int (l3 + (6 : Int32))]) rfl rfl rfl rfl ?_
                                                refine R_goto rfl ?_
                                                exact ih L xs (l3 + (6 : Int32)) h2681 _ hf _ _ hR hE
                                              · refine R_CmEq_f rfl c2684 ?_
                                                refine R_I rfl ?_
                                                obtain rfl := Option.some.inj hf
                                                obtain ⟨rfl, rfl⟩ := hR _ _ rfl
                                                exact R_retZ rfl (by decide)
                                            · skip
                                              rcases qite hf with ⟨c2685, hf⟩ | ⟨c2685, hf⟩
                                              · refine R_sw rfl (by rw [c2685]) ?_
                                                refine R_ldA rfl rfl ?_
                                                refine R_ldA rfl rfl ?_
                                                refine R_ldI rfl rfl ?_
                                                refine R_I rfl ?_
                                                refine R_bin rfl ?_
                                                obtain ⟨c2686, hf⟩ := qchk hf
                                                refine R_sld rfl c2686 ?_
                                                obtain ⟨⟨x2688, h2687⟩, e2689, hf⟩ := qbind_some hf
                                                dsimp only at hf
                                                refine R_callVi (as := [.ref 0, .int (xs (l3 + (1 : Int32)).toNatClampNeg)]) (rest := []) rfl rfl sh_0 rfl rfl rfl rfl (t_X5_rest (N := N) (by omega) (xs (l3 + (1 : Int32)).toNatClampNeg) h e2689) ?_
                                                refine R_ldA rfl rfl ?_
                                                refine R_ldA rfl rfl ?_
                                                refine R_ldI rfl rfl ?_
                                                refine R_I rfl ?_
                                                refine R_bin rfl ?_
                                                obtain ⟨c2690, hf⟩ := qchk hf
                                                refine R_sld rfl c2690 ?_
                                                obtain ⟨⟨x2692, h2691⟩, e2693, hf⟩ := qbind_some hf
                                                dsimp only at hf
                                                refine R_callVi (as := [.ref 60, .int (xs (l3 + (1 : Int32)).toNatClampNeg)]) (rest := [.int x2688]) rfl rfl sh_60 rfl rfl rfl rfl (t_X6_rest (N := N) (by omega) (xs (l3 + (1 : Int32)).toNatClampNeg) h2687 e2693) ?_
                                                rcases qite hf with ⟨c2694, hf⟩ | ⟨c2694, hf⟩
                                                · refine R_CmEq_t rfl c2694 ?_
                                                  refine R_inc (ls' := [.ref qSCR, .ref 0, .ref 60, .int (l3 + (6 : Int32))]) rfl rfl rfl rfl ?_
                                                  refine R_goto rfl ?_
                                                  exact ih L xs (l3 + (6 : Int32)) h2691 _ hf _ _ hR hE
                                                · refine R_CmEq_f rfl c2694 ?_
                                                  refine R_I rfl ?_
                                                  obtain rfl := Option.some.inj hf
                                                  obtain ⟨rfl, rfl⟩ := hR _ _ rfl
                                                  exact R_retZ rfl (by decide)
                                              · skip
                                                rcases qite hf with ⟨c2695, hf⟩ | ⟨c2695, hf⟩
                                                · refine R_sw rfl (by rw [c2695]) ?_
                                                  refine R_ldA rfl rfl ?_
                                                  refine R_ldA rfl rfl ?_
                                                  refine R_ldI rfl rfl ?_
                                                  refine R_I rfl ?_
                                                  refine R_bin rfl ?_
                                                  obtain ⟨c2696, hf⟩ := qchk hf
                                                  refine R_sld rfl c2696 ?_
                                                  obtain ⟨⟨x2698, h2697⟩, e2699, hf⟩ := qbind_some hf
                                                  dsimp only at hf
                                                  refine R_callVi (as := [.ref 0, .int (xs (l3 + (1 : Int32)).toNatClampNeg)]) (rest := []) rfl rfl sh_0 rfl rfl rfl rfl (t_X5_group (N := N) (by omega) (xs (l3 + (1 : Int32)).toNatClampNeg) h e2699) ?_
                                                  refine R_ldA rfl rfl ?_
                                                  refine R_ldA rfl rfl ?_
                                                  refine R_ldI rfl rfl ?_
                                                  refine R_I rfl ?_
                                                  refine R_bin rfl ?_
                                                  obtain ⟨c2700, hf⟩ := qchk hf
                                                  refine R_sld rfl c2700 ?_
                                                  obtain ⟨⟨x2702, h2701⟩, e2703, hf⟩ := qbind_some hf
                                                  dsimp only at hf
                                                  refine R_callVi (as := [.ref 60, .int (xs (l3 + (1 : Int32)).toNatClampNeg)]) (rest := [.int x2698]) rfl rfl sh_60 rfl rfl rfl rfl (t_X6_group (N := N) (by omega) (xs (l3 + (1 : Int32)).toNatClampNeg) h2697 e2703) ?_
                                                  rcases qite hf with ⟨c2704, hf⟩ | ⟨c2704, hf⟩
                                                  · refine R_CmEq_t rfl c2704 ?_
                                                    refine R_inc (ls' := [.ref qSCR, .ref 0, .ref 60, .int (l3 + (6 : Int32))]) rfl rfl rfl rfl ?_
                                                    refine R_goto rfl ?_
                                                    exact ih L xs (l3 + (6 : Int32)) h2701 _ hf _ _ hR hE
                                                  · refine R_CmEq_f rfl c2704 ?_
                                                    refine R_I rfl ?_
                                                    obtain rfl := Option.some.inj hf
                                                    obtain ⟨rfl, rfl⟩ := hR _ _ rfl
                                                    exact R_retZ rfl (by decide)
                                                · skip
                                                  rcases qite hf with ⟨c2705, hf⟩ | ⟨c2705, hf⟩
                                                  · refine R_sw rfl (by rw [c2705]) ?_
                                                    refine R_ldA rfl rfl ?_
                                                    obtain ⟨⟨x2707, h2706⟩, e2708, hf⟩ := qbind_some hf
                                                    dsimp only at hf
                                                    refine R_callVi (as := [.ref 0]) (rest := []) rfl rfl sh_0 rfl rfl rfl rfl (t_X5_never (N := N) (by omega)  h e2708) ?_
                                                    refine R_ldA rfl rfl ?_
                                                    obtain ⟨⟨x2710, h2709⟩, e2711, hf⟩ := qbind_some hf
                                                    dsimp only at hf
                                                    refine R_callVi (as := [.ref 60]) (rest := [.int x2707]) rfl rfl sh_60 rfl rfl rfl rfl (t_X6_never (N := N) (by omega)  h2706 e2711) ?_
                                                    rcases qite hf with ⟨c2712, hf⟩ | ⟨c2712, hf⟩
                                                    · refine R_CmEq_t rfl c2712 ?_
                                                      refine R_inc (ls' := [.ref qSCR, .ref 0, .ref 60, .int (l3 + (6 : Int32))]) rfl rfl rfl rfl ?_
                                                      refine R_goto rfl ?_
                                                      exact ih L xs (l3 + (6 : Int32)) h2709 _ hf _ _ hR hE
                                                    · refine R_CmEq_f rfl c2712 ?_
                                                      refine R_I rfl ?_
                                                      obtain rfl := Option.some.inj hf
                                                      obtain ⟨rfl, rfl⟩ := hR _ _ rfl
                                                      exact R_retZ rfl (by decide)
                                                  · skip
                                                    rcases qite hf with ⟨c2713, hf⟩ | ⟨c2713, hf⟩
                                                    · refine R_sw rfl (by rw [c2713]) ?_
                                                      refine R_ldA rfl rfl ?_
                                                      refine R_ldA rfl rfl ?_
                                                      refine R_ldI rfl rfl ?_
                                                      refine R_I rfl ?_
                                                      refine R_bin rfl ?_
                                                      obtain ⟨c2714, hf⟩ := qchk hf
                                                      refine R_sld rfl c2714 ?_
                                                      obtain ⟨⟨x2716, h2715⟩, e2717, hf⟩ := qbind_some hf
                                                      dsimp only at hf
                                                      refine R_callVi (as := [.ref 0, .int (xs (l3 + (1 : Int32)).toNatClampNeg)]) (rest := []) rfl rfl sh_0 rfl rfl rfl rfl (t_X5_fewest (N := N) (by omega) (xs (l3 + (1 : Int32)).toNatClampNeg) h e2717) ?_
                                                      refine R_ldA rfl rfl ?_
                                                      refine R_ldA rfl rfl ?_
                                                      refine R_ldI rfl rfl ?_
                                                      refine R_I rfl ?_
                                                      refine R_bin rfl ?_
                                                      obtain ⟨c2718, hf⟩ := qchk hf
                                                      refine R_sld rfl c2718 ?_
                                                      obtain ⟨⟨x2720, h2719⟩, e2721, hf⟩ := qbind_some hf
                                                      dsimp only at hf
                                                      refine R_callVi (as := [.ref 60, .int (xs (l3 + (1 : Int32)).toNatClampNeg)]) (rest := [.int x2716]) rfl rfl sh_60 rfl rfl rfl rfl (t_X6_fewest (N := N) (by omega) (xs (l3 + (1 : Int32)).toNatClampNeg) h2715 e2721) ?_
                                                      rcases qite hf with ⟨c2722, hf⟩ | ⟨c2722, hf⟩
                                                      · refine R_CmEq_t rfl c2722 ?_
                                                        refine R_inc (ls' := [.ref qSCR, .ref 0, .ref 60, .int (l3 + (6 : Int32))]) rfl rfl rfl rfl ?_
                                                        refine R_goto rfl ?_
                                                        exact ih L xs (l3 + (6 : Int32)) h2719 _ hf _ _ hR hE
                                                      · refine R_CmEq_f rfl c2722 ?_
                                                        refine R_I rfl ?_
                                                        obtain rfl := Option.some.inj hf
                                                        obtain ⟨rfl, rfl⟩ := hR _ _ rfl
                                                        exact R_retZ rfl (by decide)
                                                    · skip
                                                      rcases qite hf with ⟨c2723, hf⟩ | ⟨c2723, hf⟩
                                                      · refine R_sw rfl (by rw [c2723]) ?_
                                                        refine R_ldA rfl rfl ?_
                                                        refine R_ldA rfl rfl ?_
                                                        refine R_ldI rfl rfl ?_
                                                        refine R_I rfl ?_
                                                        refine R_bin rfl ?_
                                                        obtain ⟨c2724, hf⟩ := qchk hf
                                                        refine R_sld rfl c2724 ?_
                                                        refine R_ldA rfl rfl ?_
                                                        refine R_ldI rfl rfl ?_
                                                        refine R_I rfl ?_
                                                        refine R_bin rfl ?_
                                                        obtain ⟨c2725, hf⟩ := qchk hf
                                                        refine R_sld rfl c2725 ?_
                                                        obtain ⟨⟨x2727, h2726⟩, e2728, hf⟩ := qbind_some hf
                                                        dsimp only at hf
                                                        refine R_callVi (as := [.ref 0, .int (xs (l3 + (1 : Int32)).toNatClampNeg), .int (xs (l3 + (2 : Int32)).toNatClampNeg)]) (rest := []) rfl rfl sh_0 rfl rfl rfl rfl (t_X5_best (N := N) (by omega) (xs (l3 + (1 : Int32)).toNatClampNeg) (xs (l3 + (2 : Int32)).toNatClampNeg) h e2728) ?_
                                                        refine R_ldA rfl rfl ?_
                                                        refine R_ldA rfl rfl ?_
                                                        refine R_ldI rfl rfl ?_
                                                        refine R_I rfl ?_
                                                        refine R_bin rfl ?_
                                                        obtain ⟨c2729, hf⟩ := qchk hf
                                                        refine R_sld rfl c2729 ?_
                                                        refine R_ldA rfl rfl ?_
                                                        refine R_ldI rfl rfl ?_
                                                        refine R_I rfl ?_
                                                        refine R_bin rfl ?_
                                                        obtain ⟨c2730, hf⟩ := qchk hf
                                                        refine R_sld rfl c2730 ?_
                                                        obtain ⟨⟨x2732, h2731⟩, e2733, hf⟩ := qbind_some hf
                                                        dsimp only at hf
                                                        refine R_callVi (as := [.ref 60, .int (xs (l3 + (1 : Int32)).toNatClampNeg), .int (xs (l3 + (2 : Int32)).toNatClampNeg)]) (rest := [.int x2727]) rfl rfl sh_60 rfl rfl rfl rfl (t_X6_best (N := N) (by omega) (xs (l3 + (1 : Int32)).toNatClampNeg) (xs (l3 + (2 : Int32)).toNatClampNeg) h2726 e2733) ?_
                                                        rcases qite hf with ⟨c2734, hf⟩ | ⟨c2734, hf⟩
                                                        · refine R_CmEq_t rfl c2734 ?_
                                                          refine R_inc (ls' := [.ref qSCR, .ref 0, .ref 60, .int (l3 + (6 : Int32))]) rfl rfl rfl rfl ?_
                                                          refine R_goto rfl ?_
                                                          exact ih L xs (l3 + (6 : Int32)) h2731 _ hf _ _ hR hE
                                                        · refine R_CmEq_f rfl c2734 ?_
                                                          refine R_I rfl ?_
                                                          obtain rfl := Option.some.inj hf
                                                          obtain ⟨rfl, rfl⟩ := hR _ _ rfl
                                                          exact R_retZ rfl (by decide)
                                                      · skip
                                                        rcases qite hf with ⟨c2735, hf⟩ | ⟨c2735, hf⟩
                                                        · refine R_sw rfl (by rw [c2735]) ?_
                                                          refine R_ldA rfl rfl ?_
                                                          refine R_ldA rfl rfl ?_
                                                          refine R_ldI rfl rfl ?_
                                                          refine R_I rfl ?_
                                                          refine R_bin rfl ?_
                                                          obtain ⟨c2736, hf⟩ := qchk hf
                                                          refine R_sld rfl c2736 ?_
                                                          refine R_ldA rfl rfl ?_
                                                          refine R_ldI rfl rfl ?_
                                                          refine R_I rfl ?_
                                                          refine R_bin rfl ?_
                                                          obtain ⟨c2737, hf⟩ := qchk hf
                                                          refine R_sld rfl c2737 ?_
                                                          obtain ⟨⟨x2739, h2738⟩, e2740, hf⟩ := qbind_some hf
                                                          dsimp only at hf
                                                          refine R_callVi (as := [.ref 0, .int (xs (l3 + (1 : Int32)).toNatClampNeg), .int (xs (l3 + (2 : Int32)).toNatClampNeg)]) (rest := []) rfl rfl sh_0 rfl rfl rfl rfl (t_X5_saves (N := N) (by omega) (xs (l3 + (1 : Int32)).toNatClampNeg) (xs (l3 + (2 : Int32)).toNatClampNeg) h e2740) ?_
                                                          refine R_ldA rfl rfl ?_
                                                          refine R_ldA rfl rfl ?_
                                                          refine R_ldI rfl rfl ?_
                                                          refine R_I rfl ?_
                                                          refine R_bin rfl ?_
                                                          obtain ⟨c2741, hf⟩ := qchk hf
                                                          refine R_sld rfl c2741 ?_
                                                          refine R_ldA rfl rfl ?_
                                                          refine R_ldI rfl rfl ?_
                                                          refine R_I rfl ?_
                                                          refine R_bin rfl ?_
                                                          obtain ⟨c2742, hf⟩ := qchk hf
                                                          refine R_sld rfl c2742 ?_
                                                          obtain ⟨⟨x2744, h2743⟩, e2745, hf⟩ := qbind_some hf
                                                          dsimp only at hf
                                                          refine R_callVi (as := [.ref 60, .int (xs (l3 + (1 : Int32)).toNatClampNeg), .int (xs (l3 + (2 : Int32)).toNatClampNeg)]) (rest := [.int x2739]) rfl rfl sh_60 rfl rfl rfl rfl (t_X6_saves (N := N) (by omega) (xs (l3 + (1 : Int32)).toNatClampNeg) (xs (l3 + (2 : Int32)).toNatClampNeg) h2738 e2745) ?_
                                                          rcases qite hf with ⟨c2746, hf⟩ | ⟨c2746, hf⟩
                                                          · refine R_CmEq_t rfl c2746 ?_
                                                            refine R_inc (ls' := [.ref qSCR, .ref 0, .ref 60, .int (l3 + (6 : Int32))]) rfl rfl rfl rfl ?_
                                                            refine R_goto rfl ?_
                                                            exact ih L xs (l3 + (6 : Int32)) h2743 _ hf _ _ hR hE
                                                          · refine R_CmEq_f rfl c2746 ?_
                                                            refine R_I rfl ?_
                                                            obtain rfl := Option.some.inj hf
                                                            obtain ⟨rfl, rfl⟩ := hR _ _ rfl
                                                            exact R_retZ rfl (by decide)
                                                        · skip
                                                          rcases qite hf with ⟨c2747, hf⟩ | ⟨c2747, hf⟩
                                                          · refine R_sw rfl (by rw [c2747]) ?_
                                                            refine R_ldA rfl rfl ?_
                                                            obtain ⟨⟨x2749, h2748⟩, e2750, hf⟩ := qbind_some hf
                                                            dsimp only at hf
                                                            refine R_callVi (as := [.ref 0]) (rest := []) rfl rfl sh_0 rfl rfl rfl rfl (t_X5_match (N := N) (by omega)  h e2750) ?_
                                                            refine R_ldA rfl rfl ?_
                                                            obtain ⟨⟨x2752, h2751⟩, e2753, hf⟩ := qbind_some hf
                                                            dsimp only at hf
                                                            refine R_callVi (as := [.ref 60]) (rest := [.int x2749]) rfl rfl sh_60 rfl rfl rfl rfl (t_X6_match (N := N) (by omega)  h2748 e2753) ?_
                                                            rcases qite hf with ⟨c2754, hf⟩ | ⟨c2754, hf⟩
                                                            · refine R_CmEq_t rfl c2754 ?_
                                                              refine R_inc (ls' := [.ref qSCR, .ref 0, .ref 60, .int (l3 + (6 : Int32))]) rfl rfl rfl rfl ?_
                                                              refine R_goto rfl ?_
                                                              exact ih L xs (l3 + (6 : Int32)) h2751 _ hf _ _ hR hE
                                                            · refine R_CmEq_f rfl c2754 ?_
                                                              refine R_I rfl ?_
                                                              obtain rfl := Option.some.inj hf
                                                              obtain ⟨rfl, rfl⟩ := hR _ _ rfl
                                                              exact R_retZ rfl (by decide)
                                                          · skip
                                                            rcases qite hf with ⟨c2755, hf⟩ | ⟨c2755, hf⟩
                                                            · refine R_sw rfl (by rw [c2755]) ?_
                                                              refine R_ldA rfl rfl ?_
                                                              refine R_ldA rfl rfl ?_
                                                              refine R_ldI rfl rfl ?_
                                                              refine R_I rfl ?_
                                                              refine R_bin rfl ?_
                                                              obtain ⟨c2756, hf⟩ := qchk hf
                                                              refine R_sld rfl c2756 ?_
                                                              refine R_ldA rfl rfl ?_
                                                              refine R_ldI rfl rfl ?_
                                                              refine R_I rfl ?_
                                                              refine R_bin rfl ?_
                                                              obtain ⟨c2757, hf⟩ := qchk hf
                                                              refine R_sld rfl c2757 ?_
                                                              refine R_ldA rfl rfl ?_
                                                              refine R_ldI rfl rfl ?_
                                                              refine R_I rfl ?_
                                                              refine R_bin rfl ?_
                                                              obtain ⟨c2758, hf⟩ := qchk hf
                                                              refine R_sld rfl c2758 ?_
                                                              obtain ⟨⟨x2760, h2759⟩, e2761, hf⟩ := qbind_some hf
                                                              dsimp only at hf
                                                              refine R_callVi (as := [.ref 0, .int (xs (l3 + (1 : Int32)).toNatClampNeg), .int (xs (l3 + (2 : Int32)).toNatClampNeg), .int (xs (l3 + (3 : Int32)).toNatClampNeg)]) (rest := []) rfl rfl sh_0 rfl rfl rfl rfl (t_X5_against (N := N) (by omega) (xs (l3 + (1 : Int32)).toNatClampNeg) (xs (l3 + (2 : Int32)).toNatClampNeg) (xs (l3 + (3 : Int32)).toNatClampNeg) h e2761) ?_
                                                              refine R_ldA rfl rfl ?_
                                                              refine R_ldA rfl rfl ?_
                                                              refine R_ldI rfl rfl ?_
                                                              refine R_I rfl ?_
                                                              refine R_bin rfl ?_
                                                              obtain ⟨c2762, hf⟩ := qchk hf
                                                              refine R_sld rfl c2762 ?_
                                                              refine R_ldA rfl rfl ?_
                                                              refine R_ldI rfl rfl ?_
                                                              refine R_I rfl ?_
                                                              refine R_bin rfl ?_
                                                              obtain ⟨c2763, hf⟩ := qchk hf
                                                              refine R_sld rfl c2763 ?_
                                                              refine R_ldA rfl rfl ?_
                                                              refine R_ldI rfl rfl ?_
                                                              refine R_I rfl ?_
                                                              refine R_bin rfl ?_
                                                              obtain ⟨c2764, hf⟩ := qchk hf
                                                              refine R_sld rfl c2764 ?_
                                                              obtain ⟨⟨x2766, h2765⟩, e2767, hf⟩ := qbind_some hf
                                                              dsimp only at hf
                                                              refine R_callVi (as := [.ref 60, .int (xs (l3 + (1 : Int32)).toNatClampNeg), .int (xs (l3 + (2 : Int32)).toNatClampNeg), .int (xs (l3 + (3 : Int32)).toNatClampNeg)]) (rest := [.int x2760]) rfl rfl sh_60 rfl rfl rfl rfl (t_X6_against (N := N) (by omega) (xs (l3 + (1 : Int32)).toNatClampNeg) (xs (l3 + (2 : Int32)).toNatClampNeg) (xs (l3 + (3 : Int32)).toNatClampNeg) h2759 e2767) ?_
                                                              rcases qite hf with ⟨c2768, hf⟩ | ⟨c2768, hf⟩
                                                              · refine R_CmEq_t rfl c2768 ?_
                                                                refine R_inc (ls' := [.ref qSCR, .ref 0, .ref 60, .int (l3 + (6 : Int32))]) rfl rfl rfl rfl ?_
                                                                refine R_goto rfl ?_
                                                                exact ih L xs (l3 + (6 : Int32)) h2765 _ hf _ _ hR hE
                                                              · refine R_CmEq_f rfl c2768 ?_
                                                                refine R_I rfl ?_
                                                                obtain rfl := Option.some.inj hf
                                                                obtain ⟨rfl, rfl⟩ := hR _ _ rfl
                                                                exact R_retZ rfl (by decide)
                                                            · skip
                                                              rcases qite hf with ⟨c2769, hf⟩ | ⟨c2769, hf⟩
                                                              · refine R_sw rfl (by rw [c2769]) ?_
                                                                refine R_ldA rfl rfl ?_
                                                                refine R_ldA rfl rfl ?_
                                                                refine R_ldI rfl rfl ?_
                                                                refine R_I rfl ?_
                                                                refine R_bin rfl ?_
                                                                obtain ⟨c2770, hf⟩ := qchk hf
                                                                refine R_sld rfl c2770 ?_
                                                                refine R_ldA rfl rfl ?_
                                                                refine R_ldI rfl rfl ?_
                                                                refine R_I rfl ?_
                                                                refine R_bin rfl ?_
                                                                obtain ⟨c2771, hf⟩ := qchk hf
                                                                refine R_sld rfl c2771 ?_
                                                                refine R_ldA rfl rfl ?_
                                                                refine R_ldI rfl rfl ?_
                                                                refine R_I rfl ?_
                                                                refine R_bin rfl ?_
                                                                obtain ⟨c2772, hf⟩ := qchk hf
                                                                refine R_sld rfl c2772 ?_
                                                                refine R_ldA rfl rfl ?_
                                                                refine R_ldI rfl rfl ?_
                                                                refine R_I rfl ?_
                                                                refine R_bin rfl ?_
                                                                obtain ⟨c2773, hf⟩ := qchk hf
                                                                refine R_sld rfl c2773 ?_
                                                                refine R_ldA rfl rfl ?_
                                                                refine R_ldI rfl rfl ?_
                                                                refine R_I rfl ?_
                                                                refine R_bin rfl ?_
                                                                obtain ⟨c2774, hf⟩ := qchk hf
                                                                refine R_sld rfl c2774 ?_
                                                                obtain ⟨⟨x2776, h2775⟩, e2777, hf⟩ := qbind_some hf
                                                                dsimp only at hf
                                                                refine R_callVi (as := [.ref 0, .int (xs (l3 + (1 : Int32)).toNatClampNeg), .int (xs (l3 + (2 : Int32)).toNatClampNeg), .int (xs (l3 + (3 : Int32)).toNatClampNeg), .int (xs (l3 + (4 : Int32)).toNatClampNeg), .int (xs (l3 + (5 : Int32)).toNatClampNeg)]) (rest := []) rfl rfl sh_0 rfl rfl rfl rfl (t_X5_pays (N := N) (by omega) (xs (l3 + (1 : Int32)).toNatClampNeg) (xs (l3 + (2 : Int32)).toNatClampNeg) (xs (l3 + (3 : Int32)).toNatClampNeg) (xs (l3 + (4 : Int32)).toNatClampNeg) (xs (l3 + (5 : Int32)).toNatClampNeg) h e2777) ?_
                                                                refine R_ldA rfl rfl ?_
                                                                refine R_ldA rfl rfl ?_
                                                                refine R_ldI rfl rfl ?_
                                                                refine R_I rfl ?_
                                                                refine R_bin rfl ?_
                                                                obtain ⟨c2778, hf⟩ := qchk hf
                                                                refine R_sld rfl c2778 ?_
                                                                refine R_ldA rfl rfl ?_
                                                                refine R_ldI rfl rfl ?_
                                                                refine R_I rfl ?_
                                                                refine R_bin rfl ?_
                                                                obtain ⟨c2779, hf⟩ := qchk hf
                                                                refine R_sld rfl c2779 ?_
                                                                refine R_ldA rfl rfl ?_
                                                                refine R_ldI rfl rfl ?_
                                                                refine R_I rfl ?_
                                                                refine R_bin rfl ?_
                                                                obtain ⟨c2780, hf⟩ := qchk hf
                                                                refine R_sld rfl c2780 ?_
                                                                refine R_ldA rfl rfl ?_
                                                                refine R_ldI rfl rfl ?_
                                                                refine R_I rfl ?_
                                                                refine R_bin rfl ?_
                                                                obtain ⟨c2781, hf⟩ := qchk hf
                                                                refine R_sld rfl c2781 ?_
                                                                refine R_ldA rfl rfl ?_
                                                                refine R_ldI rfl rfl ?_
                                                                refine R_I rfl ?_
                                                                refine R_bin rfl ?_
                                                                obtain ⟨c2782, hf⟩ := qchk hf
                                                                refine R_sld rfl c2782 ?_
                                                                obtain ⟨⟨x2784, h2783⟩, e2785, hf⟩ := qbind_some hf
                                                                dsimp only at hf
                                                                refine R_callVi (as := [.ref 60, .int (xs (l3 + (1 : Int32)).toNatClampNeg), .int (xs (l3 + (2 : Int32)).toNatClampNeg), .int (xs (l3 + (3 : Int32)).toNatClampNeg), .int (xs (l3 + (4 : Int32)).toNatClampNeg), .int (xs (l3 + (5 : Int32)).toNatClampNeg)]) (rest := [.int x2776]) rfl rfl sh_60 rfl rfl rfl rfl (t_X6_pays (N := N) (by omega) (xs (l3 + (1 : Int32)).toNatClampNeg) (xs (l3 + (2 : Int32)).toNatClampNeg) (xs (l3 + (3 : Int32)).toNatClampNeg) (xs (l3 + (4 : Int32)).toNatClampNeg) (xs (l3 + (5 : Int32)).toNatClampNeg) h2775 e2785) ?_
                                                                rcases qite hf with ⟨c2786, hf⟩ | ⟨c2786, hf⟩
                                                                · refine R_CmEq_t rfl c2786 ?_
                                                                  refine R_inc (ls' := [.ref qSCR, .ref 0, .ref 60, .int (l3 + (6 : Int32))]) rfl rfl rfl rfl ?_
                                                                  refine R_goto rfl ?_
                                                                  exact ih L xs (l3 + (6 : Int32)) h2783 _ hf _ _ hR hE
                                                                · refine R_CmEq_f rfl c2786 ?_
                                                                  refine R_I rfl ?_
                                                                  obtain rfl := Option.some.inj hf
                                                                  obtain ⟨rfl, rfl⟩ := hR _ _ rfl
                                                                  exact R_retZ rfl (by decide)
                                                              · skip
                                                                rcases qite hf with ⟨c2787, hf⟩ | ⟨c2787, hf⟩
                                                                · refine R_sw rfl (by rw [c2787]) ?_
                                                                  refine R_ldA rfl rfl ?_
                                                                  obtain ⟨⟨x2789, h2788⟩, e2790, hf⟩ := qbind_some hf
                                                                  dsimp only at hf
                                                                  refine R_callVi (as := [.ref 0]) (rest := []) rfl rfl sh_0 rfl rfl rfl rfl (t_X5_image (by omega)  h e2790) ?_
                                                                  refine R_ldA rfl rfl ?_
                                                                  obtain ⟨⟨x2792, h2791⟩, e2793, hf⟩ := qbind_some hf
                                                                  dsimp only at hf
                                                                  refine R_callVi (as := [.ref 60]) (rest := [.int x2789]) rfl rfl sh_60 rfl rfl rfl rfl (t_X6_image (N := N) (by omega)  h2788 e2793) ?_
                                                                  rcases qite hf with ⟨c2794, hf⟩ | ⟨c2794, hf⟩
                                                                  · refine R_CmEq_t rfl c2794 ?_
                                                                    refine R_inc (ls' := [.ref qSCR, .ref 0, .ref 60, .int (l3 + (6 : Int32))]) rfl rfl rfl rfl ?_
                                                                    refine R_goto rfl ?_
                                                                    exact ih L xs (l3 + (6 : Int32)) h2791 _ hf _ _ hR hE
                                                                  · refine R_CmEq_f rfl c2794 ?_
                                                                    refine R_I rfl ?_
                                                                    obtain rfl := Option.some.inj hf
                                                                    obtain ⟨rfl, rfl⟩ := hR _ _ rfl
                                                                    exact R_retZ rfl (by decide)
                                                                · skip
                                                                  rcases qite hf with ⟨c2795, hf⟩ | ⟨c2795, hf⟩
                                                                  · refine R_sw rfl (by rw [c2795]) ?_
                                                                    refine R_ldA rfl rfl ?_
                                                                    obtain ⟨⟨x2797, h2796⟩, e2798, hf⟩ := qbind_some hf
                                                                    dsimp only at hf
                                                                    refine R_callVi (as := [.ref 0]) (rest := []) rfl rfl sh_0 rfl rfl rfl rfl (t_X5_restore (by omega)  h e2798) ?_
                                                                    refine R_ldA rfl rfl ?_
                                                                    obtain ⟨⟨x2800, h2799⟩, e2801, hf⟩ := qbind_some hf
                                                                    dsimp only at hf
                                                                    refine R_callVi (as := [.ref 60]) (rest := [.int x2797]) rfl rfl sh_60 rfl rfl rfl rfl (t_X6_restore (N := N) (by omega)  h2796 e2801) ?_
                                                                    rcases qite hf with ⟨c2802, hf⟩ | ⟨c2802, hf⟩
                                                                    · refine R_CmEq_t rfl c2802 ?_
                                                                      refine R_inc (ls' := [.ref qSCR, .ref 0, .ref 60, .int (l3 + (6 : Int32))]) rfl rfl rfl rfl ?_
                                                                      refine R_goto rfl ?_
                                                                      exact ih L xs (l3 + (6 : Int32)) h2799 _ hf _ _ hR hE
                                                                    · refine R_CmEq_f rfl c2802 ?_
                                                                      refine R_I rfl ?_
                                                                      obtain rfl := Option.some.inj hf
                                                                      obtain ⟨rfl, rfl⟩ := hR _ _ rfl
                                                                      exact R_retZ rfl (by decide)
                                                                  · skip
                                                                    rcases qite hf with ⟨c2803, hf⟩ | ⟨c2803, hf⟩
                                                                    · refine R_sw rfl (by rw [c2803]) ?_
                                                                      refine R_ldA rfl rfl ?_
                                                                      refine R_ldA rfl rfl ?_
                                                                      refine R_ldI rfl rfl ?_
                                                                      refine R_I rfl ?_
                                                                      refine R_bin rfl ?_
                                                                      obtain ⟨c2804, hf⟩ := qchk hf
                                                                      refine R_sld rfl c2804 ?_
                                                                      refine R_ldA rfl rfl ?_
                                                                      refine R_ldI rfl rfl ?_
                                                                      refine R_I rfl ?_
                                                                      refine R_bin rfl ?_
                                                                      obtain ⟨c2805, hf⟩ := qchk hf
                                                                      refine R_sld rfl c2805 ?_
                                                                      refine R_ldA rfl rfl ?_
                                                                      refine R_ldI rfl rfl ?_
                                                                      refine R_I rfl ?_
                                                                      refine R_bin rfl ?_
                                                                      obtain ⟨c2806, hf⟩ := qchk hf
                                                                      refine R_sld rfl c2806 ?_
                                                                      refine R_ldA rfl rfl ?_
                                                                      refine R_ldI rfl rfl ?_
                                                                      refine R_I rfl ?_
                                                                      refine R_bin rfl ?_
                                                                      obtain ⟨c2807, hf⟩ := qchk hf
                                                                      refine R_sld rfl c2807 ?_
                                                                      obtain ⟨⟨x2809, h2808⟩, e2810, hf⟩ := qbind_some hf
                                                                      dsimp only at hf
                                                                      refine R_callVi (as := [.ref 0, .int (xs (l3 + (1 : Int32)).toNatClampNeg), .int (xs (l3 + (2 : Int32)).toNatClampNeg), .int (xs (l3 + (3 : Int32)).toNatClampNeg), .int (xs (l3 + (4 : Int32)).toNatClampNeg)]) (rest := []) rfl rfl sh_0 rfl rfl rfl rfl (t_X5_deal (N := N) (by omega) (xs (l3 + (1 : Int32)).toNatClampNeg) (xs (l3 + (2 : Int32)).toNatClampNeg) (xs (l3 + (3 : Int32)).toNatClampNeg) (xs (l3 + (4 : Int32)).toNatClampNeg) h e2810) ?_
                                                                      refine R_ldA rfl rfl ?_
                                                                      refine R_ldA rfl rfl ?_
                                                                      refine R_ldI rfl rfl ?_
                                                                      refine R_I rfl ?_
                                                                      refine R_bin rfl ?_
                                                                      obtain ⟨c2811, hf⟩ := qchk hf
                                                                      refine R_sld rfl c2811 ?_
                                                                      refine R_ldA rfl rfl ?_
                                                                      refine R_ldI rfl rfl ?_
                                                                      refine R_I rfl ?_
                                                                      refine R_bin rfl ?_
                                                                      obtain ⟨c2812, hf⟩ := qchk hf
                                                                      refine R_sld rfl c2812 ?_
                                                                      refine R_ldA rfl rfl ?_
                                                                      refine R_ldI rfl rfl ?_
                                                                      refine R_I rfl ?_
                                                                      refine R_bin rfl ?_
                                                                      obtain ⟨c2813, hf⟩ := qchk hf
                                                                      refine R_sld rfl c2813 ?_
                                                                      refine R_ldA rfl rfl ?_
                                                                      refine R_ldI rfl rfl ?_
                                                                      refine R_I rfl ?_
                                                                      refine R_bin rfl ?_
                                                                      obtain ⟨c2814, hf⟩ := qchk hf
                                                                      refine R_sld rfl c2814 ?_
                                                                      obtain ⟨⟨x2816, h2815⟩, e2817, hf⟩ := qbind_some hf
                                                                      dsimp only at hf
                                                                      refine R_callVi (as := [.ref 60, .int (xs (l3 + (1 : Int32)).toNatClampNeg), .int (xs (l3 + (2 : Int32)).toNatClampNeg), .int (xs (l3 + (3 : Int32)).toNatClampNeg), .int (xs (l3 + (4 : Int32)).toNatClampNeg)]) (rest := [.int x2809]) rfl rfl sh_60 rfl rfl rfl rfl (t_X6_deal (N := N) (by omega) (xs (l3 + (1 : Int32)).toNatClampNeg) (xs (l3 + (2 : Int32)).toNatClampNeg) (xs (l3 + (3 : Int32)).toNatClampNeg) (xs (l3 + (4 : Int32)).toNatClampNeg) h2808 e2817) ?_
                                                                      rcases qite hf with ⟨c2818, hf⟩ | ⟨c2818, hf⟩
                                                                      · refine R_CmEq_t rfl c2818 ?_
                                                                        refine R_inc (ls' := [.ref qSCR, .ref 0, .ref 60, .int (l3 + (6 : Int32))]) rfl rfl rfl rfl ?_
                                                                        refine R_goto rfl ?_
                                                                        exact ih L xs (l3 + (6 : Int32)) h2815 _ hf _ _ hR hE
                                                                      · refine R_CmEq_f rfl c2818 ?_
                                                                        refine R_I rfl ?_
                                                                        obtain rfl := Option.some.inj hf
                                                                        obtain ⟨rfl, rfl⟩ := hR _ _ rfl
                                                                        exact R_retZ rfl (by decide)
                                                                    · skip
                                                                      rcases qite hf with ⟨c2819, hf⟩ | ⟨c2819, hf⟩
                                                                      · refine R_sw rfl (by rw [c2819]) ?_
                                                                        refine R_ldA rfl rfl ?_
                                                                        refine R_ldA rfl rfl ?_
                                                                        refine R_ldI rfl rfl ?_
                                                                        refine R_I rfl ?_
                                                                        refine R_bin rfl ?_
                                                                        obtain ⟨c2820, hf⟩ := qchk hf
                                                                        refine R_sld rfl c2820 ?_
                                                                        refine R_ldA rfl rfl ?_
                                                                        refine R_ldI rfl rfl ?_
                                                                        refine R_I rfl ?_
                                                                        refine R_bin rfl ?_
                                                                        obtain ⟨c2821, hf⟩ := qchk hf
                                                                        refine R_sld rfl c2821 ?_
                                                                        refine R_ldA rfl rfl ?_
                                                                        refine R_ldI rfl rfl ?_
                                                                        refine R_I rfl ?_
                                                                        refine R_bin rfl ?_
                                                                        obtain ⟨c2822, hf⟩ := qchk hf
                                                                        refine R_sld rfl c2822 ?_
                                                                        obtain ⟨⟨x2824, h2823⟩, e2825, hf⟩ := qbind_some hf
                                                                        dsimp only at hf
                                                                        refine R_callVi (as := [.ref 0, .int (xs (l3 + (1 : Int32)).toNatClampNeg), .int (xs (l3 + (2 : Int32)).toNatClampNeg), .int (xs (l3 + (3 : Int32)).toNatClampNeg)]) (rest := []) rfl rfl sh_0 rfl rfl rfl rfl (t_X5_sheet (N := N) (by omega) (xs (l3 + (1 : Int32)).toNatClampNeg) (xs (l3 + (2 : Int32)).toNatClampNeg) (xs (l3 + (3 : Int32)).toNatClampNeg) h e2825) ?_
                                                                        refine R_ldA rfl rfl ?_
                                                                        refine R_ldA rfl rfl ?_
                                                                        refine R_ldI rfl rfl ?_
                                                                        refine R_I rfl ?_
                                                                        refine R_bin rfl ?_
                                                                        obtain ⟨c2826, hf⟩ := qchk hf
                                                                        refine R_sld rfl c2826 ?_
                                                                        refine R_ldA rfl rfl ?_
                                                                        refine R_ldI rfl rfl ?_
                                                                        refine R_I rfl ?_
                                                                        refine R_bin rfl ?_
                                                                        obtain ⟨c2827, hf⟩ := qchk hf
                                                                        refine R_sld rfl c2827 ?_
                                                                        refine R_ldA rfl rfl ?_
                                                                        refine R_ldI rfl rfl ?_
                                                                        refine R_I rfl ?_
                                                                        refine R_bin rfl ?_
                                                                        obtain ⟨c2828, hf⟩ := qchk hf
                                                                        refine R_sld rfl c2828 ?_
                                                                        obtain ⟨⟨x2830, h2829⟩, e2831, hf⟩ := qbind_some hf
                                                                        dsimp only at hf
                                                                        refine R_callVi (as := [.ref 60, .int (xs (l3 + (1 : Int32)).toNatClampNeg), .int (xs (l3 + (2 : Int32)).toNatClampNeg), .int (xs (l3 + (3 : Int32)).toNatClampNeg)]) (rest := [.int x2824]) rfl rfl sh_60 rfl rfl rfl rfl (t_X6_sheet (N := N) (by omega) (xs (l3 + (1 : Int32)).toNatClampNeg) (xs (l3 + (2 : Int32)).toNatClampNeg) (xs (l3 + (3 : Int32)).toNatClampNeg) h2823 e2831) ?_
                                                                        rcases qite hf with ⟨c2832, hf⟩ | ⟨c2832, hf⟩
                                                                        · refine R_CmEq_t rfl c2832 ?_
                                                                          refine R_inc (ls' := [.ref qSCR, .ref 0, .ref 60, .int (l3 + (6 : Int32))]) rfl rfl rfl rfl ?_
                                                                          refine R_goto rfl ?_
                                                                          exact ih L xs (l3 + (6 : Int32)) h2829 _ hf _ _ hR hE
                                                                        · refine R_CmEq_f rfl c2832 ?_
                                                                          refine R_I rfl ?_
                                                                          obtain rfl := Option.some.inj hf
                                                                          obtain ⟨rfl, rfl⟩ := hR _ _ rfl
                                                                          exact R_retZ rfl (by decide)
                                                                      · skip
                                                                        rcases qite hf with ⟨c2833, hf⟩ | ⟨c2833, hf⟩
                                                                        · refine R_sw rfl (by rw [c2833]) ?_
                                                                          refine R_ldA rfl rfl ?_
                                                                          refine R_ldA rfl rfl ?_
                                                                          refine R_ldI rfl rfl ?_
                                                                          refine R_I rfl ?_
                                                                          refine R_bin rfl ?_
                                                                          obtain ⟨c2834, hf⟩ := qchk hf
                                                                          refine R_sld rfl c2834 ?_
                                                                          obtain ⟨⟨x2836, h2835⟩, e2837, hf⟩ := qbind_some hf
                                                                          dsimp only at hf
                                                                          refine R_callVi (as := [.ref 0, .int (xs (l3 + (1 : Int32)).toNatClampNeg)]) (rest := []) rfl rfl sh_0 rfl rfl rfl rfl (t_X5_drop (by omega) (xs (l3 + (1 : Int32)).toNatClampNeg) h e2837) ?_
                                                                          refine R_ldA rfl rfl ?_
                                                                          refine R_ldA rfl rfl ?_
                                                                          refine R_ldI rfl rfl ?_
                                                                          refine R_I rfl ?_
                                                                          refine R_bin rfl ?_
                                                                          obtain ⟨c2838, hf⟩ := qchk hf
                                                                          refine R_sld rfl c2838 ?_
                                                                          obtain ⟨⟨x2840, h2839⟩, e2841, hf⟩ := qbind_some hf
                                                                          dsimp only at hf
                                                                          refine R_callVi (as := [.ref 60, .int (xs (l3 + (1 : Int32)).toNatClampNeg)]) (rest := [.int x2836]) rfl rfl sh_60 rfl rfl rfl rfl (t_X6_drop (by omega) (xs (l3 + (1 : Int32)).toNatClampNeg) h2835 e2841) ?_
                                                                          rcases qite hf with ⟨c2842, hf⟩ | ⟨c2842, hf⟩
                                                                          · refine R_CmEq_t rfl c2842 ?_
                                                                            refine R_inc (ls' := [.ref qSCR, .ref 0, .ref 60, .int (l3 + (6 : Int32))]) rfl rfl rfl rfl ?_
                                                                            refine R_goto rfl ?_
                                                                            exact ih L xs (l3 + (6 : Int32)) h2839 _ hf _ _ hR hE
                                                                          · refine R_CmEq_f rfl c2842 ?_
                                                                            refine R_I rfl ?_
                                                                            obtain rfl := Option.some.inj hf
                                                                            obtain ⟨rfl, rfl⟩ := hR _ _ rfl
                                                                            exact R_retZ rfl (by decide)
                                                                        · skip
                                                                          rcases qite hf with ⟨c2843, hf⟩ | ⟨c2843, hf⟩
                                                                          · refine R_sw rfl (by rw [c2843]) ?_
                                                                            refine R_ldA rfl rfl ?_
                                                                            refine R_ldA rfl rfl ?_
                                                                            refine R_ldI rfl rfl ?_
                                                                            refine R_I rfl ?_
                                                                            refine R_bin rfl ?_
                                                                            obtain ⟨c2844, hf⟩ := qchk hf
                                                                            refine R_sld rfl c2844 ?_
                                                                            refine R_ldA rfl rfl ?_
                                                                            refine R_ldI rfl rfl ?_
                                                                            refine R_I rfl ?_
                                                                            refine R_bin rfl ?_
                                                                            obtain ⟨c2845, hf⟩ := qchk hf
                                                                            refine R_sld rfl c2845 ?_
                                                                            refine R_ldA rfl rfl ?_
                                                                            refine R_ldI rfl rfl ?_
                                                                            refine R_I rfl ?_
                                                                            refine R_bin rfl ?_
                                                                            obtain ⟨c2846, hf⟩ := qchk hf
                                                                            refine R_sld rfl c2846 ?_
                                                                            refine R_ldA rfl rfl ?_
                                                                            refine R_ldI rfl rfl ?_
                                                                            refine R_I rfl ?_
                                                                            refine R_bin rfl ?_
                                                                            obtain ⟨c2847, hf⟩ := qchk hf
                                                                            refine R_sld rfl c2847 ?_
                                                                            obtain ⟨⟨x2849, h2848⟩, e2850, hf⟩ := qbind_some hf
                                                                            dsimp only at hf
                                                                            refine R_callVi (as := [.ref 0, .int (xs (l3 + (1 : Int32)).toNatClampNeg), .int (xs (l3 + (2 : Int32)).toNatClampNeg), .int (xs (l3 + (3 : Int32)).toNatClampNeg), .int (xs (l3 + (4 : Int32)).toNatClampNeg)]) (rest := []) rfl rfl sh_0 rfl rfl rfl rfl (t_X5_item (by omega) (xs (l3 + (1 : Int32)).toNatClampNeg) (xs (l3 + (2 : Int32)).toNatClampNeg) (xs (l3 + (3 : Int32)).toNatClampNeg) (xs (l3 + (4 : Int32)).toNatClampNeg) h e2850) ?_
                                                                            refine R_ldA rfl rfl ?_
                                                                            refine R_ldA rfl rfl ?_
                                                                            refine R_ldI rfl rfl ?_
                                                                            refine R_I rfl ?_
                                                                            refine R_bin rfl ?_
                                                                            obtain ⟨c2851, hf⟩ := qchk hf
                                                                            refine R_sld rfl c2851 ?_
                                                                            refine R_ldA rfl rfl ?_
                                                                            refine R_ldI rfl rfl ?_
                                                                            refine R_I rfl ?_
                                                                            refine R_bin rfl ?_
                                                                            obtain ⟨c2852, hf⟩ := qchk hf
                                                                            refine R_sld rfl c2852 ?_
                                                                            refine R_ldA rfl rfl ?_
                                                                            refine R_ldI rfl rfl ?_
                                                                            refine R_I rfl ?_
                                                                            refine R_bin rfl ?_
                                                                            obtain ⟨c2853, hf⟩ := qchk hf
                                                                            refine R_sld rfl c2853 ?_
                                                                            refine R_ldA rfl rfl ?_
                                                                            refine R_ldI rfl rfl ?_
                                                                            refine R_I rfl ?_
                                                                            refine R_bin rfl ?_
                                                                            obtain ⟨c2854, hf⟩ := qchk hf
                                                                            refine R_sld rfl c2854 ?_
                                                                            obtain ⟨⟨x2856, h2855⟩, e2857, hf⟩ := qbind_some hf
                                                                            dsimp only at hf
                                                                            refine R_callVi (as := [.ref 60, .int (xs (l3 + (1 : Int32)).toNatClampNeg), .int (xs (l3 + (2 : Int32)).toNatClampNeg), .int (xs (l3 + (3 : Int32)).toNatClampNeg), .int (xs (l3 + (4 : Int32)).toNatClampNeg)]) (rest := [.int x2849]) rfl rfl sh_60 rfl rfl rfl rfl (t_X6_item (by omega) (xs (l3 + (1 : Int32)).toNatClampNeg) (xs (l3 + (2 : Int32)).toNatClampNeg) (xs (l3 + (3 : Int32)).toNatClampNeg) (xs (l3 + (4 : Int32)).toNatClampNeg) h2848 e2857) ?_
                                                                            rcases qite hf with ⟨c2858, hf⟩ | ⟨c2858, hf⟩
                                                                            · refine R_CmEq_t rfl c2858 ?_
                                                                              refine R_inc (ls' := [.ref qSCR, .ref 0, .ref 60, .int (l3 + (6 : Int32))]) rfl rfl rfl rfl ?_
                                                                              refine R_goto rfl ?_
                                                                              exact ih L xs (l3 + (6 : Int32)) h2855 _ hf _ _ hR hE
                                                                            · refine R_CmEq_f rfl c2858 ?_
                                                                              refine R_I rfl ?_
                                                                              obtain rfl := Option.some.inj hf
                                                                              obtain ⟨rfl, rfl⟩ := hR _ _ rfl
                                                                              exact R_retZ rfl (by decide)
                                                                          · skip
                                                                            rcases qite hf with ⟨c2859, hf⟩ | ⟨c2859, hf⟩
                                                                            · refine R_sw rfl (by rw [c2859]) ?_
                                                                              refine R_ldA rfl rfl ?_
                                                                              refine R_ldA rfl rfl ?_
                                                                              refine R_ldI rfl rfl ?_
                                                                              refine R_I rfl ?_
                                                                              refine R_bin rfl ?_
                                                                              obtain ⟨c2860, hf⟩ := qchk hf
                                                                              refine R_sld rfl c2860 ?_
                                                                              refine R_ldA rfl rfl ?_
                                                                              refine R_ldI rfl rfl ?_
                                                                              refine R_I rfl ?_
                                                                              refine R_bin rfl ?_
                                                                              obtain ⟨c2861, hf⟩ := qchk hf
                                                                              refine R_sld rfl c2861 ?_
                                                                              refine R_ldA rfl rfl ?_
                                                                              refine R_ldI rfl rfl ?_
                                                                              refine R_I rfl ?_
                                                                              refine R_bin rfl ?_
                                                                              obtain ⟨c2862, hf⟩ := qchk hf
                                                                              refine R_sld rfl c2862 ?_
                                                                              refine R_ldA rfl rfl ?_
                                                                              refine R_ldI rfl rfl ?_
                                                                              refine R_I rfl ?_
                                                                              refine R_bin rfl ?_
                                                                              obtain ⟨c2863, hf⟩ := qchk hf
                                                                              refine R_sld rfl c2863 ?_
                                                                              refine R_ldA rfl rfl ?_
                                                                              refine R_ldI rfl rfl ?_
                                                                              refine R_I rfl ?_
                                                                              refine R_bin rfl ?_
                                                                              obtain ⟨c2864, hf⟩ := qchk hf
                                                                              refine R_sld rfl c2864 ?_
                                                                              obtain ⟨⟨x2866, h2865⟩, e2867, hf⟩ := qbind_some hf
                                                                              dsimp only at hf
                                                                              refine R_callVi (as := [.ref 0, .int (xs (l3 + (1 : Int32)).toNatClampNeg), .int (xs (l3 + (2 : Int32)).toNatClampNeg), .int (xs (l3 + (3 : Int32)).toNatClampNeg), .int (xs (l3 + (4 : Int32)).toNatClampNeg), .int (xs (l3 + (5 : Int32)).toNatClampNeg)]) (rest := []) rfl rfl sh_0 rfl rfl rfl rfl (t_X5_copy (by omega) (xs (l3 + (1 : Int32)).toNatClampNeg) (xs (l3 + (2 : Int32)).toNatClampNeg) (xs (l3 + (3 : Int32)).toNatClampNeg) (xs (l3 + (4 : Int32)).toNatClampNeg) (xs (l3 + (5 : Int32)).toNatClampNeg) h e2867) ?_
                                                                              refine R_ldA rfl rfl ?_
                                                                              refine R_ldA rfl rfl ?_
                                                                              refine R_ldI rfl rfl ?_
                                                                              refine R_I rfl ?_
                                                                              refine R_bin rfl ?_
                                                                              obtain ⟨c2868, hf⟩ := qchk hf
                                                                              refine R_sld rfl c2868 ?_
                                                                              refine R_ldA rfl rfl ?_
                                                                              refine R_ldI rfl rfl ?_
                                                                              refine R_I rfl ?_
                                                                              refine R_bin rfl ?_
                                                                              obtain ⟨c2869, hf⟩ := qchk hf
                                                                              refine R_sld rfl c2869 ?_
                                                                              refine R_ldA rfl rfl ?_
                                                                              refine R_ldI rfl rfl ?_
                                                                              refine R_I rfl ?_
                                                                              refine R_bin rfl ?_
                                                                              obtain ⟨c2870, hf⟩ := qchk hf
                                                                              refine R_sld rfl c2870 ?_
                                                                              refine R_ldA rfl rfl ?_
                                                                              refine R_ldI rfl rfl ?_
                                                                              refine R_I rfl ?_
                                                                              refine R_bin rfl ?_
                                                                              obtain ⟨c2871, hf⟩ := qchk hf
                                                                              refine R_sld rfl c2871 ?_
                                                                              refine R_ldA rfl rfl ?_
                                                                              refine R_ldI rfl rfl ?_
                                                                              refine R_I rfl ?_
                                                                              refine R_bin rfl ?_
                                                                              obtain ⟨c2872, hf⟩ := qchk hf
                                                                              refine R_sld rfl c2872 ?_
                                                                              obtain ⟨⟨x2874, h2873⟩, e2875, hf⟩ := qbind_some hf
                                                                              dsimp only at hf
                                                                              refine R_callVi (as := [.ref 60, .int (xs (l3 + (1 : Int32)).toNatClampNeg), .int (xs (l3 + (2 : Int32)).toNatClampNeg), .int (xs (l3 + (3 : Int32)).toNatClampNeg), .int (xs (l3 + (4 : Int32)).toNatClampNeg), .int (xs (l3 + (5 : Int32)).toNatClampNeg)]) (rest := [.int x2866]) rfl rfl sh_60 rfl rfl rfl rfl (t_X6_copy (N := N) (by omega) (xs (l3 + (1 : Int32)).toNatClampNeg) (xs (l3 + (2 : Int32)).toNatClampNeg) (xs (l3 + (3 : Int32)).toNatClampNeg) (xs (l3 + (4 : Int32)).toNatClampNeg) (xs (l3 + (5 : Int32)).toNatClampNeg) h2865 e2875) ?_
                                                                              rcases qite hf with ⟨c2876, hf⟩ | ⟨c2876, hf⟩
                                                                              · refine R_CmEq_t rfl c2876 ?_
                                                                                refine R_inc (ls' := [.ref qSCR, .ref 0, .ref 60, .int (l3 + (6 : Int32))]) rfl rfl rfl rfl ?_
                                                                                refine R_goto rfl ?_
                                                                                exact ih L xs (l3 + (6 : Int32)) h2873 _ hf _ _ hR hE
                                                                              · refine R_CmEq_f rfl c2876 ?_
                                                                                refine R_I rfl ?_
                                                                                obtain rfl := Option.some.inj hf
                                                                                obtain ⟨rfl, rfl⟩ := hR _ _ rfl
                                                                                exact R_retZ rfl (by decide)
                                                                            · skip
                                                                              refine R_sw rfl (sw_def (fun j hj => by (have hj2 : j = 0 ∨ j = 1 ∨ j = 2 ∨ j = 3 ∨ j = 4 ∨ j = 5 ∨ j = 6 ∨ j = 7 ∨ j = 8 ∨ j = 9 ∨ j = 10 ∨ j = 11 ∨ j = 12 ∨ j = 13 ∨ j = 14 ∨ j = 15 ∨ j = 16 ∨ j = 17 ∨ j = 18 ∨ j = 19 ∨ j = 20 ∨ j = 21 ∨ j = 22 ∨ j = 23 ∨ j = 24 ∨ j = 25 ∨ j = 26 ∨ j = 27 ∨ j = 28 ∨ j = 29 ∨ j = 30 ∨ j = 31 ∨ j = 32 ∨ j = 33 ∨ j = 34 ∨ j = 35 := by simpa using (show j < 36 from hj) |> fun z => by omega); rcases hj2 with rfl | rfl | rfl | rfl | rfl | rfl | rfl | rfl | rfl | rfl | rfl | rfl | rfl | rfl | rfl | rfl | rfl | rfl | rfl | rfl | rfl | rfl | rfl | rfl | rfl | rfl | rfl | rfl | rfl | rfl | rfl | rfl | rfl | rfl | rfl | rfl <;> assumption)) ?_
                                                                              refine R_inc (ls' := [.ref qSCR, .ref 0, .ref 60, .int (l3 + (6 : Int32))]) rfl rfl rfl rfl ?_
                                                                              refine R_goto rfl ?_
                                                                              exact ih L xs (l3 + (6 : Int32)) h _ hf _ _ hR hE
