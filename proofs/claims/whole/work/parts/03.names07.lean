theorem dL_log_10 : decode cL_log 10 = .ok (.goto 7, 3) := by decide +kernel
theorem dL_log_13 : decode cL_log 13 = .ok (.astore 4, 2) := by decide +kernel
theorem dL_log_15 : decode cL_log 15 = .ok (.iconst 1, 1) := by decide +kernel
theorem dL_log_16 : decode cL_log 16 = .ok (.ireturn, 1) := by decide +kernel
theorem dL_log_17 : decode cL_log 17 = .ok (.iconst 0, 1) := by decide +kernel
theorem dL_log_18 : decode cL_log 18 = .ok (.ireturn, 1) := by decide +kernel
set_option maxRecDepth 20000 in
theorem ggL_law__X11_init : GoodIn wsL_law_ wsX11_init := goodIn_r _ [9, 10, 11, 12, 13, 14, 15, 16, 17, 18, 19, 20, 21, 22, 23, 24, 25, 26, 27, 28, 29, 30, 31, 32, 33, 34, 35, 36, 37, 38, 39, 40, 41, 42, 43, 44, 45, 46, 47, 48, 49, 50, 51, 52, 53, 54, 55, 56, 57, 58, 59, 60, 61, 62, 63, 64, 65, 66, 67, 68, 69, 70, 71, 72, 73, 74, 75, 76, 77, 78, 79, 80, 81, 82, 83, 84, 85, 86, 87, 88, 89, 90, 91, 92, 93, 94, 95, 96, 97, 98, 99, 100, 101, 102, 103, 104, 105, 106, 107, 108, 109, 110, 111, 112, 113, 114, 115, 116, 117, 118, 119, 120, 121, 122, 123, 124, 125, 126, 127, 128, 129, 130, 131, 132, 133, 134, 135, 136, 137, 138, 139, 1572, 1573, 1574, 1575, 1576, 1577, 1578, 1579, 1580, 1581, 1582, 1583, 1584, 1585, 1586, 1587, 1588, 1589, 1590, 1591, 1612, 1613, 1614, 1615, 1616, 1617, 1618, 1619, 1620, 1621, 1622, 1623, 1624, 1625, 1626, 1627, 1628, 1629, 1630, 1631, 1632, 1633, 1634, 1635, 1636, 1637, 1638, 1639, 1640, 1641, 1642, 1643, 1644, 1645, 1646, 1647, 1648, 1649, 1650, 1651, 1652, 1653, 1654, 1655, 1656, 1657, 1658, 1659, 1660] (by decide +kernel) (by decide +kernel)
set_option maxRecDepth 20000 in
theorem gL_law__X11_init : GoodIn wsL_law_ (wsX11_init) := ggL_law__X11_init
set_option maxRecDepth 20000 in
theorem ggL_law__X12_init : GoodIn wsL_law_ wsX12_init := goodIn_r _ [142, 143, 11, 12, 62, 144, 145, 146, 147, 148, 13, 149, 150, 151, 152, 153, 154, 1592, 1593, 1594, 1595, 1596, 1597, 1598, 1599, 1600, 1601, 1602, 1603, 1604, 1605, 1606, 1607, 1608, 1609, 1610, 1611] (by decide +kernel) (by decide +kernel)
set_option maxRecDepth 20000 in
theorem gL_law__X12_init : GoodIn wsL_law_ (wsX12_init) := ggL_law__X12_init
set_option maxRecDepth 20000 in
theorem ggL_law__X11_feed : GoodIn wsL_law_ wsX11_feed := goodIn_r _ [158, 15, 159, 160, 161, 2, 162, 14, 1572, 1573, 1574, 1575, 1576, 1577, 1578, 1579, 1580, 1581, 1582, 1583, 1584, 1585, 1586, 1587, 1588, 1589, 1590, 1591] (by decide +kernel) (by decide +kernel)
set_option maxRecDepth 20000 in
theorem gL_law__X11_feed : GoodIn wsL_law_ (wsV RL 114 RX11 yX11_feed wsX11_feed) := goodIn_app (goodIn_of _ (by decide +kernel)) ggL_law__X11_feed
set_option maxRecDepth 20000 in
theorem ggL_law__X12_feed : GoodIn wsL_law_ wsX12_feed := goodIn_r _ [166, 167, 168, 151, 149, 1592, 1593, 1594, 1595, 1596, 1597, 1598, 1599, 1600, 1601, 1602, 1603, 1604, 1605, 1606, 1607, 1608, 1609, 1610, 1611] (by decide +kernel) (by decide +kernel)
set_option maxRecDepth 20000 in
theorem gL_law__X12_feed : GoodIn wsL_law_ (wsV RL 118 RX12 yX12_feed wsX12_feed) := goodIn_app (goodIn_of _ (by decide +kernel)) ggL_law__X12_feed
set_option maxRecDepth 20000 in
theorem ggL_law__X11_end : GoodIn wsL_law_ wsX11_end := goodIn_r _ [172, 15, 1572, 1573, 1574, 1575, 1576, 1577, 1578, 1579, 1580, 1581, 1582, 1583, 1584, 1585, 1586, 1587, 1588, 1589, 1590, 1591] (by decide +kernel) (by decide +kernel)
set_option maxRecDepth 20000 in
theorem gL_law__X11_end : GoodIn wsL_law_ (wsV RL 119 RX11 yX11_end wsX11_end) := goodIn_app (goodIn_of _ (by decide +kernel)) ggL_law__X11_end
set_option maxRecDepth 20000 in
theorem ggL_law__X12_end : GoodIn wsL_law_ wsX12_end := goodIn_r _ [176, 167, 168, 1592, 1593, 1594, 1595, 1596, 1597, 1598, 1599, 1600, 1601, 1602, 1603, 1604, 1605, 1606, 1607, 1608, 1609, 1610, 1611] (by decide +kernel) (by decide +kernel)
set_option maxRecDepth 20000 in
theorem gL_law__X12_end : GoodIn wsL_law_ (wsV RL 123 RX12 yX12_end wsX12_end) := goodIn_app (goodIn_of _ (by decide +kernel)) ggL_law__X12_end
set_option maxRecDepth 20000 in
theorem ggL_law__L_hill : GoodIn wsL_law_ wsL_hill := goodIn_ca (goodIn_ca (goodIn_r _ [180, 181, 182, 183, 184, 185, 2, 186, 187, 188, 189, 190, 20, 14, 34, 25, 40, 16, 21, 52, 191, 192, 193, 194, 15, 195, 196, 197, 19, 198, 66, 199, 200, 201, 202, 203, 204, 205, 206, 207, 208, 209, 210, 211, 212, 213, 214, 215, 216, 217, 218, 219, 220, 221, 222, 223, 224, 225, 226, 227, 228, 229, 230, 231, 232, 233, 234, 235, 236, 237, 238, 239, 240, 241, 242, 243, 244, 245, 246, 247, 248, 249, 250, 251, 252, 253, 254, 255, 256, 257, 258, 259, 260, 63, 64, 65, 261, 262, 263, 264, 265, 266, 267, 268, 269, 270, 271, 272, 24, 273, 274, 275, 276, 71, 277, 278, 72, 279, 73, 77, 78, 74, 280, 281, 282, 283, 75, 79, 80, 81, 82, 83, 84, 85, 284, 285, 286, 287, 109, 288, 114, 112, 113, 289, 290, 291, 292, 293, 294, 295, 296, 39, 297, 298, 299, 300, 301, 302, 303, 304, 305, 306, 106, 307, 308, 309, 310, 311, 312, 313, 314, 315, 316, 317, 318, 319, 320, 321, 322, 323, 324, 325, 326, 327, 328, 329, 330, 331, 332, 333, 334, 335, 336, 337, 338, 339, 340, 341, 342, 343, 344, 345, 346, 347, 348, 349, 350, 351, 352, 353, 354, 355, 356, 357, 358, 43, 359, 360, 361, 362, 363, 118, 364, 365, 366, 367, 368, 369, 370, 371, 372, 373, 374, 375, 376, 377, 378, 379, 380, 28, 381, 95, 94, 382, 383, 384, 385, 386, 387, 388, 389, 390, 391, 392, 393, 394, 395, 396, 397, 398, 399, 90, 91, 92, 93, 400, 401, 402, 403, 404, 405, 406, 407, 408, 409, 410, 411, 412, 413, 414, 415, 416, 417, 418, 419, 420, 421, 422, 423, 424, 425, 426, 427, 428, 429, 430, 51, 431, 132, 1572, 1573, 1574, 1575, 1576, 1577, 1578, 1579, 1580, 1581, 1582, 1583, 1584, 1585, 1586, 1587, 1588, 1589, 1590, 1591, 1612, 1613, 1614, 1615, 1616, 1617, 1618, 1619, 1620, 1621, 1622, 1623, 1624, 1625, 1626, 1627, 1628, 1629, 1630, 1631, 1632, 1633, 1634, 1635, 1645, 1646, 1647, 1648, 1649, 1650, 1651, 1652, 1636, 1637, 1638, 1639, 1640, 1641, 1642, 1657, 1658, 1659, 1660] (by decide +kernel) (by decide +kernel)) (goodIn_sub (fun _ h => List.mem_append_left _ (List.mem_append_left _ (List.mem_append_left _ (List.mem_append_left _ (List.mem_append_right _ h))))) (by decide +kernel))) (goodIn_sub (fun _ h => List.mem_append_left _ (List.mem_append_left _ (List.mem_append_left _ (List.mem_append_right _ h)))) (by decide +kernel))
set_option maxRecDepth 20000 in
theorem gL_law__L_hill : GoodIn wsL_law_ (va_wsS RL 124 yL_hill wsL_hill) := goodIn_app (goodIn_of _ (by decide +kernel)) ggL_law__L_hill
set_option maxRecDepth 20000 in
theorem ggL_law__X12_hill : GoodIn wsL_law_ wsX12_hill := goodIn_r _ [435, 146, 144, 436, 150, 437, 438, 439, 440, 5, 441, 442, 443, 444, 445, 446, 447, 448, 167, 168, 449, 450, 451, 452, 453, 454, 455, 456, 149, 457, 458, 459, 460, 461, 462, 463, 464, 465, 466, 467, 468, 469, 470, 471, 472, 473, 209, 210, 211, 212, 213, 214, 215, 216, 217, 218, 219, 474, 221, 222, 223, 224, 225, 226, 227, 228, 229, 230, 231, 232, 233, 234, 235, 236, 237, 238, 239, 240, 241, 242, 243, 244, 245, 246, 247, 248, 249, 250, 251, 252, 253, 254, 255, 256, 475, 476, 477, 478, 479, 480, 481, 482, 483, 484, 485, 486, 487, 488, 489, 490, 491, 492, 493, 494, 495, 496, 497, 498, 499, 500, 501, 502, 503, 504, 505, 506, 507, 508, 509, 510, 511, 512, 513, 514, 515, 516, 517, 518, 519, 520, 521, 522, 523, 524, 525, 526, 527, 528, 529, 530, 531, 532, 533, 534, 535, 536, 537, 538, 539, 540, 541, 542, 543, 544, 545, 546, 547, 548, 549, 550, 551, 552, 553, 554, 555, 556, 557, 558, 559, 560, 561, 562, 563, 564, 1592, 1593, 1594, 1595, 1596, 1597, 1598, 1599, 1600, 1601, 1602, 1603, 1604, 1605, 1606, 1607, 1608, 1609, 1610, 1611] (by decide +kernel) (by decide +kernel)
set_option maxRecDepth 20000 in
theorem gL_law__X12_hill : GoodIn wsL_law_ (wsV RL 129 RX12 yX12_hill wsX12_hill) := goodIn_app (goodIn_of _ (by decide +kernel)) ggL_law__X12_hill
set_option maxRecDepth 20000 in
theorem ggL_law__X12_thrown : GoodIn wsL_law_ wsX12_thrown := goodIn_r _ [568, 167, 1592, 1593, 1594, 1595, 1596, 1597, 1598, 1599, 1600, 1601, 1602, 1603, 1604, 1605, 1606, 1607, 1608, 1609, 1610, 1611] (by decide +kernel) (by decide +kernel)
set_option maxRecDepth 20000 in
theorem gL_law__X12_thrown : GoodIn wsL_law_ (wsV RL 130 RX12 yX12_thrown wsX12_thrown) := goodIn_app (goodIn_of _ (by decide +kernel)) ggL_law__X12_thrown
set_option maxRecDepth 20000 in
theorem ggL_law__L_law : GoodIn wsL_law_ wsL_law := goodIn_ca (goodIn_r _ [571, 181, 572, 573, 574, 2, 575, 187, 188, 20, 14, 35, 44, 16, 29, 52, 576, 191, 192, 193, 194, 15, 195, 196, 197, 19, 198, 66, 199, 200, 201, 202, 203, 204, 205, 206, 207, 208, 209, 210, 211, 212, 213, 214, 215, 216, 217, 218, 219, 220, 221, 222, 223, 224, 225, 226, 227, 228, 229, 230, 231, 232, 233, 234, 235, 236, 237, 238, 239, 240, 241, 242, 243, 244, 245, 246, 247, 248, 249, 250, 251, 252, 253, 254, 255, 256, 257, 258, 259, 260, 63, 64, 65, 261, 262, 263, 264, 265, 266, 267, 268, 269, 577, 578, 579, 28, 580, 90, 95, 581, 582, 583, 287, 109, 288, 114, 112, 113, 289, 290, 291, 292, 293, 294, 295, 296, 39, 297, 298, 299, 300, 301, 302, 303, 304, 305, 306, 106, 307, 308, 309, 310, 311, 312, 313, 314, 315, 316, 317, 318, 319, 320, 321, 322, 323, 324, 24, 325, 274, 74, 75, 77, 78, 79, 80, 326, 327, 328, 329, 330, 331, 332, 333, 334, 335, 336, 337, 338, 275, 81, 82, 83, 339, 340, 341, 342, 343, 344, 345, 346, 347, 348, 349, 350, 351, 352, 353, 354, 355, 356, 357, 358, 43, 359, 360, 361, 362, 363, 118, 364, 365, 366, 367, 368, 369, 370, 371, 372, 373, 374, 375, 376, 377, 378, 379, 380, 381, 94, 382, 383, 384, 385, 386, 387, 388, 389, 390, 391, 392, 393, 394, 395, 396, 397, 398, 399, 91, 92, 93, 400, 401, 402, 403, 404, 405, 406, 407, 584, 585, 586, 587, 588, 281, 282, 283, 428, 429, 430, 51, 431, 132, 1572, 1573, 1574, 1575, 1576, 1577, 1578, 1579, 1580, 1581, 1582, 1583, 1584, 1585, 1586, 1587, 1588, 1589, 1590, 1591, 1636, 1637, 1638, 1639, 1640, 1641, 1642, 1612, 1613, 1614, 1615, 1645, 1646, 1647, 1648, 1649, 1650, 1651, 1652, 1616, 1617, 1618, 1619, 1620, 1621, 1622, 1623, 1624, 1625, 1626, 1627, 1628, 1629, 1630, 1631, 1632, 1633, 1634, 1635, 1657, 1658, 1659, 1660] (by decide +kernel) (by decide +kernel)) (goodIn_sub (fun _ h => List.mem_append_left _ (List.mem_append_left _ (List.mem_append_left _ (List.mem_append_left _ (List.mem_append_right _ h))))) (by decide +kernel))
set_option maxRecDepth 20000 in
theorem gL_law__L_law : GoodIn wsL_law_ (va_wsS RL 133 yL_law wsL_law) := goodIn_app (goodIn_of _ (by decide +kernel)) ggL_law__L_law
set_option maxRecDepth 20000 in
theorem ggL_law__X12_law : GoodIn wsL_law_ wsX12_law := goodIn_r _ [592, 436, 150, 144, 437, 438, 439, 440, 5, 441, 442, 443, 444, 445, 446, 447, 448, 167, 168, 449, 450, 451, 452, 453, 454, 455, 456, 149, 457, 458, 459, 460, 461, 462, 463, 464, 465, 466, 467, 468, 469, 470, 471, 472, 473, 209, 210, 211, 212, 213, 214, 215, 216, 217, 218, 219, 474, 221, 222, 223, 224, 225, 226, 227, 228, 229, 230, 231, 232, 233, 234, 235, 236, 237, 238, 239, 240, 241, 242, 243, 244, 245, 246, 247, 248, 249, 250, 251, 252, 253, 254, 255, 256, 475, 476, 477, 478, 479, 480, 481, 482, 483, 484, 485, 486, 487, 488, 489, 490, 491, 492, 493, 494, 495, 496, 497, 498, 499, 500, 501, 502, 503, 504, 505, 506, 507, 508, 509, 510, 511, 512, 513, 514, 515, 516, 517, 518, 519, 520, 521, 522, 523, 524, 525, 526, 527, 528, 529, 530, 531, 532, 533, 534, 535, 536, 537, 538, 539, 540, 541, 542, 543, 544, 545, 546, 547, 548, 549, 550, 551, 552, 553, 554, 555, 556, 557, 558, 559, 560, 561, 562, 563, 564, 1592, 1593, 1594, 1595, 1596, 1597, 1598, 1599, 1600, 1601, 1602, 1603, 1604, 1605, 1606, 1607, 1608, 1609, 1610, 1611] (by decide +kernel) (by decide +kernel)
set_option maxRecDepth 20000 in
theorem gL_law__X12_law : GoodIn wsL_law_ (wsV RL 135 RX12 yX12_law wsX12_law) := goodIn_app (goodIn_of _ (by decide +kernel)) ggL_law__X12_law
set_option maxRecDepth 20000 in
theorem ggL_law__X11_fault : GoodIn wsL_law_ wsX11_fault := goodIn_r _ [596, 16, 1572, 1573, 1574, 1575, 1576, 1577, 1578, 1579, 1580, 1581, 1582, 1583, 1584, 1585, 1586, 1587, 1588, 1589, 1590, 1591] (by decide +kernel) (by decide +kernel)
set_option maxRecDepth 20000 in
theorem gL_law__X11_fault : GoodIn wsL_law_ (wsV RL 136 RX11 yX11_fault wsX11_fault) := goodIn_app (goodIn_of _ (by decide +kernel)) ggL_law__X11_fault
set_option maxRecDepth 20000 in
theorem ggL_law__X12_fault : GoodIn wsL_law_ wsX12_fault := goodIn_r _ [600, 167, 150, 1592, 1593, 1594, 1595, 1596, 1597, 1598, 1599, 1600, 1601, 1602, 1603, 1604, 1605, 1606, 1607, 1608, 1609, 1610, 1611] (by decide +kernel) (by decide +kernel)
set_option maxRecDepth 20000 in
theorem gL_law__X12_fault : GoodIn wsL_law_ (wsV RL 139 RX12 yX12_fault wsX12_fault) := goodIn_app (goodIn_of _ (by decide +kernel)) ggL_law__X12_fault
set_option maxRecDepth 20000 in
theorem ggL_law__L_plank : GoodIn wsL_law_ wsL_plank := goodIn_ca (goodIn_ca (goodIn_r _ [603, 604, 605, 606, 607, 608, 2, 609, 610, 611, 25, 612, 613, 614, 615, 29, 616, 617, 618, 619, 620, 621, 622, 623, 414, 415, 24, 416, 77, 84, 417, 418, 419, 420, 71, 421, 422, 423, 424, 425, 426, 427, 624, 625, 626, 627, 85, 628, 629, 630, 631, 632, 633, 634, 28, 635, 90, 93, 91, 92, 636, 637, 638, 639, 94, 96, 640, 641, 642, 643, 644, 645, 646, 647, 648, 649, 80, 75, 279, 1572, 1573, 1574, 1575, 1576, 1577, 1578, 1579, 1580, 1581, 1582, 1583, 1584, 1585, 1586, 1587, 1588, 1589, 1590, 1591, 1616, 1617, 1618, 1619, 1620, 1621, 1622, 1623, 1624, 1625, 1626, 1627, 1628, 1629, 1630, 1631, 1632, 1633, 1634, 1635, 1636, 1637, 1638, 1639, 1640, 1641, 1642] (by decide +kernel) (by decide +kernel)) (goodIn_sub (fun _ h => List.mem_append_left _ (List.mem_append_left _ (List.mem_append_right _ h))) (by decide +kernel))) (goodIn_sub (fun _ h => List.mem_append_left _ (List.mem_append_right _ h)) (by decide +kernel))
set_option maxRecDepth 20000 in
theorem gL_law__L_plank : GoodIn wsL_law_ (va_wsS RL 140 yL_plank wsL_plank) := goodIn_app (goodIn_of _ (by decide +kernel)) ggL_law__L_plank
set_option maxRecDepth 20000 in
theorem ggL_law__X12_plank : GoodIn wsL_law_ wsX12_plank := goodIn_r _ [653, 167, 654, 655, 656, 5, 657, 479, 480, 481, 482, 144, 658, 659, 660, 561, 562, 563, 564, 661, 662, 663, 664, 665, 666, 667, 668, 669, 670, 671, 672, 491, 492, 493, 673, 674, 675, 676, 677, 678, 679, 680, 513, 514, 515, 516, 681, 682, 683, 684, 521, 522, 523, 685, 686, 687, 688, 689, 690, 691, 692, 693, 694, 695, 494, 495, 496, 696, 697, 698, 699, 700, 422, 423, 424, 701, 426, 427, 702, 703, 704, 705, 706, 707, 708, 709, 710, 711, 712, 713, 714, 715, 716, 717, 718, 719, 720, 721, 152, 722, 723, 724, 725, 726, 727, 728, 729, 730, 731, 732, 733, 734, 735, 1592, 1593, 1594, 1595, 1596, 1597, 1598, 1599, 1600, 1601, 1602, 1603, 1604, 1605, 1606, 1607, 1608, 1609, 1610, 1611] (by decide +kernel) (by decide +kernel)
set_option maxRecDepth 20000 in
theorem gL_law__X12_plank : GoodIn wsL_law_ (wsV RL 143 RX12 yX12_plank wsX12_plank) := goodIn_app (goodIn_of _ (by decide +kernel)) ggL_law__X12_plank
set_option maxRecDepth 20000 in
theorem ggL_law__L_house : GoodIn wsL_law_ wsL_house := goodIn_ca (goodIn_ca (goodIn_r _ [738, 604, 605, 739, 740, 741, 2, 742, 610, 611, 25, 743, 744, 745, 746, 29, 747, 748, 749, 750, 620, 621, 751, 332, 333, 24, 334, 274, 752, 753, 754, 755, 275, 83, 756, 757, 758, 759, 72, 85, 632, 633, 634, 28, 635, 90, 93, 91, 92, 636, 637, 638, 639, 94, 96, 640, 641, 642, 643, 644, 645, 646, 647, 648, 649, 84, 80, 75, 279, 760, 761, 762, 763, 764, 765, 766, 767, 82, 768, 769, 770, 771, 425, 426, 423, 427, 412, 772, 773, 774, 775, 78, 77, 276, 417, 418, 419, 420, 71, 421, 422, 424, 1572, 1573, 1574, 1575, 1576, 1577, 1578, 1579, 1580, 1581, 1582, 1583, 1584, 1585, 1586, 1587, 1588, 1589, 1590, 1591, 1616, 1617, 1618, 1619, 1620, 1621, 1622, 1623, 1624, 1625, 1626, 1627, 1628, 1629, 1630, 1631, 1632, 1633, 1634, 1635, 1636, 1637, 1638, 1639, 1640, 1641, 1642] (by decide +kernel) (by decide +kernel)) (goodIn_sub (fun _ h => List.mem_append_left _ (List.mem_append_left _ (List.mem_append_right _ h))) (by decide +kernel))) (goodIn_sub (fun _ h => List.mem_append_left _ (List.mem_append_right _ h)) (by decide +kernel))
set_option maxRecDepth 20000 in
theorem gL_law__L_house : GoodIn wsL_law_ (va_wsS RL 144 yL_house wsL_house) := goodIn_app (goodIn_of _ (by decide +kernel)) ggL_law__L_house
set_option maxRecDepth 20000 in
theorem ggL_law__X12_house : GoodIn wsL_law_ wsX12_house := goodIn_r _ [779, 167, 780, 781, 782, 5, 783, 501, 502, 503, 504, 479, 480, 481, 482, 144, 658, 659, 660, 561, 562, 563, 564, 673, 674, 675, 676, 677, 678, 679, 680, 513, 514, 515, 516, 681, 682, 683, 684, 521, 522, 523, 685, 686, 687, 688, 689, 690, 691, 692, 693, 694, 695, 494, 495, 496, 726, 727, 728, 729, 730, 731, 732, 706, 707, 708, 709, 669, 670, 671, 672, 491, 492, 493, 661, 662, 663, 664, 665, 666, 667, 668, 696, 697, 698, 699, 700, 422, 423, 424, 701, 426, 427, 733, 734, 735, 784, 785, 786, 787, 714, 715, 716, 717, 718, 719, 720, 721, 152, 722, 723, 724, 725, 702, 703, 704, 705, 788, 789, 790, 791, 792, 793, 794, 795, 796, 797, 798, 799, 800, 801, 802, 803, 804, 805, 806, 807, 1592, 1593, 1594, 1595, 1596, 1597, 1598, 1599, 1600, 1601, 1602, 1603, 1604, 1605, 1606, 1607, 1608, 1609, 1610, 1611] (by decide +kernel) (by decide +kernel)
set_option maxRecDepth 20000 in
theorem gL_law__X12_house : GoodIn wsL_law_ (wsV RL 146 RX12 yX12_house wsX12_house) := goodIn_app (goodIn_of _ (by decide +kernel)) ggL_law__X12_house
set_option maxRecDepth 20000 in
theorem ggL_law__L_thing : GoodIn wsL_law_ wsL_thing := goodIn_ca (goodIn_ca (goodIn_r _ [810, 604, 605, 811, 812, 813, 2, 814, 610, 611, 25, 815, 816, 817, 818, 819, 820, 821, 620, 621, 822, 1572, 1573, 1574, 1575, 1576, 1577, 1578, 1579, 1580, 1581, 1582, 1583, 1584, 1585, 1586, 1587, 1588, 1589, 1590, 1591, 1616, 1617, 1618, 1619, 1620, 1621, 1622, 1623, 1624, 1625, 1626, 1627, 1628, 1629, 1630, 1631, 1632, 1633, 1634, 1635] (by decide +kernel) (by decide +kernel)) (goodIn_sub (fun _ h => List.mem_append_left _ (List.mem_append_left _ (List.mem_append_right _ h))) (by decide +kernel))) (goodIn_sub (fun _ h => List.mem_append_left _ (List.mem_append_right _ h)) (by decide +kernel))
set_option maxRecDepth 20000 in
theorem gL_law__L_thing : GoodIn wsL_law_ (va_wsS RL 147 yL_thing wsL_thing) := goodIn_app (goodIn_of _ (by decide +kernel)) ggL_law__L_thing
set_option maxRecDepth 20000 in
theorem ggL_law__X12_thing : GoodIn wsL_law_ wsX12_thing := goodIn_r _ [826, 167, 827, 828, 829, 5, 830, 513, 514, 515, 516, 144, 658, 659, 660, 561, 562, 563, 564, 681, 682, 683, 684, 521, 522, 523, 1592, 1593, 1594, 1595, 1596, 1597, 1598, 1599, 1600, 1601, 1602, 1603, 1604, 1605, 1606, 1607, 1608, 1609, 1610, 1611] (by decide +kernel) (by decide +kernel)
set_option maxRecDepth 20000 in
theorem gL_law__X12_thing : GoodIn wsL_law_ (wsV RL 149 RX12 yX12_thing wsX12_thing) := goodIn_app (goodIn_of _ (by decide +kernel)) ggL_law__X12_thing
set_option maxRecDepth 20000 in
theorem ggL_law__L_carry : GoodIn wsL_law_ wsL_carry := goodIn_ca (goodIn_ca (goodIn_r _ [833, 604, 834, 835, 836, 837, 2, 838, 839, 840, 25, 817, 52, 33, 841, 818, 819, 820, 821, 620, 621, 822, 747, 748, 749, 750, 751, 332, 333, 24, 334, 274, 842, 843, 844, 51, 845, 132, 133, 135, 137, 846, 271, 272, 273, 275, 276, 71, 277, 278, 72, 279, 73, 77, 78, 74, 280, 281, 282, 283, 75, 79, 80, 81, 82, 83, 84, 85, 847, 848, 849, 32, 850, 101, 102, 851, 852, 853, 854, 855, 408, 409, 410, 411, 412, 413, 414, 415, 416, 417, 418, 419, 420, 421, 422, 423, 424, 425, 426, 427, 1572, 1573, 1574, 1575, 1576, 1577, 1578, 1579, 1580, 1581, 1582, 1583, 1584, 1585, 1586, 1587, 1588, 1589, 1590, 1591, 1616, 1617, 1618, 1619, 1620, 1621, 1622, 1623, 1624, 1625, 1626, 1627, 1628, 1629, 1630, 1631, 1632, 1633, 1634, 1635, 1657, 1658, 1659, 1660, 1643, 1644] (by decide +kernel) (by decide +kernel)) (goodIn_sub (fun _ h => List.mem_append_right _ h) (by decide +kernel))) (goodIn_sub (fun _ h => List.mem_append_left _ (List.mem_append_right _ h)) (by decide +kernel))
set_option maxRecDepth 20000 in
theorem gL_law__L_carry : GoodIn wsL_law_ (va_wsS RL 150 yL_carry wsL_carry) := goodIn_app (goodIn_of _ (by decide +kernel)) ggL_law__L_carry
set_option maxRecDepth 20000 in
theorem ggL_law__X12_carry : GoodIn wsL_law_ wsX12_carry := goodIn_r _ [859, 167, 144, 827, 828, 829, 5, 830, 513, 514, 515, 516, 658, 659, 660, 780, 781, 782, 783, 501, 502, 503, 504, 479, 480, 481, 482, 561, 562, 563, 564, 860, 861, 862, 863, 681, 682, 683, 684, 521, 522, 523, 864, 865, 866, 867, 437, 148, 868, 869, 870, 871, 700, 422, 423, 424, 1592, 1593, 1594, 1595, 1596, 1597, 1598, 1599, 1600, 1601, 1602, 1603, 1604, 1605, 1606, 1607, 1608, 1609, 1610, 1611] (by decide +kernel) (by decide +kernel)
set_option maxRecDepth 20000 in
theorem gL_law__X12_carry : GoodIn wsL_law_ (wsV RL 152 RX12 yX12_carry wsX12_carry) := goodIn_app (goodIn_of _ (by decide +kernel)) ggL_law__X12_carry
set_option maxRecDepth 20000 in
theorem ggL_law__L_guests : GoodIn wsL_law_ wsL_guests := goodIn_ca (goodIn_ca (goodIn_r _ [874, 604, 181, 875, 876, 877, 2, 878, 52, 25, 33, 744, 747, 748, 749, 750, 620, 621, 751, 332, 333, 24, 334, 274, 879, 880, 881, 187, 188, 842, 843, 844, 51, 845, 132, 133, 135, 137, 846, 271, 272, 273, 275, 276, 71, 277, 278, 72, 279, 73, 77, 78, 74, 280, 281, 282, 283, 75, 79, 80, 81, 82, 83, 84, 85, 847, 848, 849, 32, 850, 101, 102, 851, 408, 409, 410, 411, 412, 413, 414, 415, 416, 417, 418, 419, 420, 421, 422, 423, 424, 425, 426, 427, 1572, 1573, 1574, 1575, 1576, 1577, 1578, 1579, 1580, 1581, 1582, 1583, 1584, 1585, 1586, 1587, 1588, 1589, 1590, 1591, 1616, 1617, 1618, 1619, 1620, 1621, 1622, 1623, 1624, 1625, 1626, 1627, 1628, 1629, 1630, 1631, 1632, 1633, 1634, 1635, 1657, 1658, 1659, 1660, 1643, 1644] (by decide +kernel) (by decide +kernel)) (goodIn_sub (fun _ h => List.mem_append_left _ (List.mem_append_right _ h)) (by decide +kernel))) (goodIn_sub (fun _ h => List.mem_append_left _ (List.mem_append_left _ (List.mem_append_left _ (List.mem_append_left _ (List.mem_append_right _ h))))) (by decide +kernel))
set_option maxRecDepth 20000 in
theorem gL_law__L_guests : GoodIn wsL_law_ (va_wsS RL 153 yL_guests wsL_guests) := goodIn_app (goodIn_of _ (by decide +kernel)) ggL_law__L_guests
set_option maxRecDepth 20000 in
theorem ggL_law__X12_guests : GoodIn wsL_law_ wsX12_guests := goodIn_r _ [885, 167, 144, 780, 781, 782, 5, 783, 501, 502, 503, 504, 479, 480, 481, 482, 658, 659, 660, 561, 562, 563, 564, 864, 865, 866, 867, 437, 148, 692, 693, 694, 695, 494, 495, 496, 1592, 1593, 1594, 1595, 1596, 1597, 1598, 1599, 1600, 1601, 1602, 1603, 1604, 1605, 1606, 1607, 1608, 1609, 1610, 1611] (by decide +kernel) (by decide +kernel)
set_option maxRecDepth 20000 in
theorem gL_law__X12_guests : GoodIn wsL_law_ (wsV RL 155 RX12 yX12_guests wsX12_guests) := goodIn_app (goodIn_of _ (by decide +kernel)) ggL_law__X12_guests
set_option maxRecDepth 20000 in
theorem ggL_law__L_prop : GoodIn wsL_law_ wsL_prop := goodIn_ca (goodIn_r _ [888, 604, 889, 890, 891, 2, 892, 52, 25, 33, 614, 616, 617, 618, 619, 620, 621, 622, 842, 843, 844, 51, 845, 132, 133, 135, 137, 846, 271, 272, 24, 273, 274, 275, 276, 71, 277, 278, 72, 279, 73, 77, 78, 74, 280, 281, 282, 283, 75, 79, 80, 81, 82, 83, 84, 85, 847, 848, 849, 32, 850, 101, 102, 851, 408, 409, 410, 411, 412, 332, 333, 334, 413, 414, 415, 416, 417, 418, 419, 420, 421, 422, 423, 424, 425, 426, 427, 1572, 1573, 1574, 1575, 1576, 1577, 1578, 1579, 1580, 1581, 1582, 1583, 1584, 1585, 1586, 1587, 1588, 1589, 1590, 1591, 1616, 1617, 1618, 1619, 1620, 1621, 1622, 1623, 1624, 1625, 1626, 1627, 1628, 1629, 1630, 1631, 1632, 1633, 1634, 1635, 1657, 1658, 1659, 1660, 1643, 1644] (by decide +kernel) (by decide +kernel)) (goodIn_sub (fun _ h => List.mem_append_left _ (List.mem_append_right _ h)) (by decide +kernel))
set_option maxRecDepth 20000 in
theorem gL_law__L_prop : GoodIn wsL_law_ (va_wsS RL 156 yL_prop wsL_prop) := goodIn_app (goodIn_of _ (by decide +kernel)) ggL_law__L_prop
set_option maxRecDepth 20000 in
theorem ggL_law__X12_prop : GoodIn wsL_law_ wsX12_prop := goodIn_r _ [896, 167, 144, 654, 655, 656, 5, 657, 479, 480, 481, 482, 658, 659, 660, 561, 562, 563, 564, 864, 865, 866, 867, 437, 148, 665, 666, 667, 668, 669, 670, 671, 672, 491, 492, 493, 1592, 1593, 1594, 1595, 1596, 1597, 1598, 1599, 1600, 1601, 1602, 1603, 1604, 1605, 1606, 1607, 1608, 1609, 1610, 1611] (by decide +kernel) (by decide +kernel)
set_option maxRecDepth 20000 in
theorem gL_law__X12_prop : GoodIn wsL_law_ (wsV RL 159 RX12 yX12_prop wsX12_prop) := goodIn_app (goodIn_of _ (by decide +kernel)) ggL_law__X12_prop
set_option maxRecDepth 20000 in
theorem ggL_law__L_mend : GoodIn wsL_law_ wsL_mend := goodIn_ca (goodIn_ca (goodIn_r _ [899, 604, 834, 900, 901, 902, 2, 903, 839, 840, 25, 615, 52, 33, 613, 616, 617, 618, 619, 620, 621, 622, 842, 843, 844, 51, 845, 132, 133, 135, 137, 846, 271, 272, 24, 273, 274, 275, 276, 71, 277, 278, 72, 279, 73, 77, 78, 74, 280, 281, 282, 283, 75, 79, 80, 81, 82, 83, 84, 85, 847, 848, 849, 32, 850, 101, 102, 851, 408, 409, 410, 411, 412, 332, 333, 334, 413, 414, 415, 416, 417, 418, 419, 420, 421, 422, 423, 424, 425, 426, 427, 1572, 1573, 1574, 1575, 1576, 1577, 1578, 1579, 1580, 1581, 1582, 1583, 1584, 1585, 1586, 1587, 1588, 1589, 1590, 1591, 1616, 1617, 1618, 1619, 1620, 1621, 1622, 1623, 1624, 1625, 1626, 1627, 1628, 1629, 1630, 1631, 1632, 1633, 1634, 1635, 1657, 1658, 1659, 1660, 1643, 1644] (by decide +kernel) (by decide +kernel)) (goodIn_sub (fun _ h => List.mem_append_right _ h) (by decide +kernel))) (goodIn_sub (fun _ h => List.mem_append_left _ (List.mem_append_right _ h)) (by decide +kernel))
set_option maxRecDepth 20000 in
theorem gL_law__L_mend : GoodIn wsL_law_ (va_wsS RL 160 yL_mend wsL_mend) := goodIn_app (goodIn_of _ (by decide +kernel)) ggL_law__L_mend
set_option maxRecDepth 20000 in
theorem ggL_law__X12_mend : GoodIn wsL_law_ wsX12_mend := goodIn_r _ [907, 167, 144, 654, 655, 656, 5, 657, 479, 480, 481, 482, 658, 659, 660, 561, 562, 563, 564, 706, 707, 708, 709, 669, 670, 671, 672, 491, 492, 493, 864, 865, 866, 867, 437, 148, 1592, 1593, 1594, 1595, 1596, 1597, 1598, 1599, 1600, 1601, 1602, 1603, 1604, 1605, 1606, 1607, 1608, 1609, 1610, 1611] (by decide +kernel) (by decide +kernel)
set_option maxRecDepth 20000 in
theorem gL_law__X12_mend : GoodIn wsL_law_ (wsV RL 163 RX12 yX12_mend wsX12_mend) := goodIn_app (goodIn_of _ (by decide +kernel)) ggL_law__X12_mend
set_option maxRecDepth 20000 in
theorem ggL_law__L_give : GoodIn wsL_law_ wsL_give := goodIn_ca (goodIn_ca (goodIn_r _ [910, 604, 181, 911, 912, 913, 2, 914, 187, 188, 25, 743, 52, 33, 915, 422, 423, 424, 747, 748, 749, 750, 620, 621, 751, 332, 333, 24, 334, 274, 879, 880, 881, 842, 843, 844, 51, 845, 132, 133, 135, 137, 846, 271, 272, 273, 275, 276, 71, 277, 278, 72, 279, 73, 77, 78, 74, 280, 281, 282, 283, 75, 79, 80, 81, 82, 83, 84, 85, 847, 848, 849, 32, 850, 101, 102, 851, 1572, 1573, 1574, 1575, 1576, 1577, 1578, 1579, 1580, 1581, 1582, 1583, 1584, 1585, 1586, 1587, 1588, 1589, 1590, 1591, 1616, 1617, 1618, 1619, 1620, 1621, 1622, 1623, 1624, 1625, 1626, 1627, 1628, 1629, 1630, 1631, 1632, 1633, 1634, 1635, 1657, 1658, 1659, 1660, 1643, 1644] (by decide +kernel) (by decide +kernel)) (goodIn_sub (fun _ h => List.mem_append_left _ (List.mem_append_left _ (List.mem_append_left _ (List.mem_append_left _ (List.mem_append_right _ h))))) (by decide +kernel))) (goodIn_sub (fun _ h => List.mem_append_left _ (List.mem_append_right _ h)) (by decide +kernel))
set_option maxRecDepth 20000 in
theorem gL_law__L_give : GoodIn wsL_law_ (va_wsS RL 164 yL_give wsL_give) := goodIn_app (goodIn_of _ (by decide +kernel)) ggL_law__L_give
set_option maxRecDepth 20000 in
theorem ggL_law__X12_give : GoodIn wsL_law_ wsX12_give := goodIn_r _ [919, 167, 144, 700, 422, 423, 424, 780, 781, 782, 5, 783, 501, 502, 503, 504, 479, 480, 481, 482, 658, 659, 660, 561, 562, 563, 564, 692, 693, 694, 695, 494, 495, 496, 864, 865, 866, 867, 437, 148, 1592, 1593, 1594, 1595, 1596, 1597, 1598, 1599, 1600, 1601, 1602, 1603, 1604, 1605, 1606, 1607, 1608, 1609, 1610, 1611] (by decide +kernel) (by decide +kernel)
set_option maxRecDepth 20000 in
theorem gL_law__X12_give : GoodIn wsL_law_ (wsV RL 167 RX12 yX12_give wsX12_give) := goodIn_app (goodIn_of _ (by decide +kernel)) ggL_law__X12_give
set_option maxRecDepth 20000 in
theorem ggL_law__X11_sweep : GoodIn wsL_law_ wsX11_sweep := goodIn_r _ [923, 52, 25, 33, 924, 842, 843, 844, 51, 845, 132, 133, 135, 137, 846, 271, 272, 24, 273, 274, 275, 276, 71, 277, 278, 72, 279, 73, 77, 78, 74, 280, 281, 282, 283, 75, 79, 80, 81, 82, 83, 84, 85, 847, 848, 849, 32, 850, 101, 102, 851, 408, 409, 410, 411, 412, 332, 333, 334, 413, 414, 415, 416, 417, 418, 419, 420, 421, 422, 423, 424, 425, 426, 427, 1572, 1573, 1574, 1575, 1576, 1577, 1578, 1579, 1580, 1581, 1582, 1583, 1584, 1585, 1586, 1587, 1588, 1589, 1590, 1591, 1616, 1617, 1618, 1619, 1620, 1621, 1622, 1623, 1624, 1625, 1626, 1627, 1628, 1629, 1630, 1631, 1632, 1633, 1634, 1635, 1657, 1658, 1659, 1660, 1643, 1644] (by decide +kernel) (by decide +kernel)
set_option maxRecDepth 20000 in
theorem gL_law__X11_sweep : GoodIn wsL_law_ (wsV RL 168 RX11 yX11_sweep wsX11_sweep) := goodIn_app (goodIn_of _ (by decide +kernel)) ggL_law__X11_sweep
set_option maxRecDepth 20000 in
theorem ggL_law__X12_sweep : GoodIn wsL_law_ wsX12_sweep := goodIn_r _ [928, 167, 144, 864, 865, 866, 5, 867, 437, 148, 1592, 1593, 1594, 1595, 1596, 1597, 1598, 1599, 1600, 1601, 1602, 1603, 1604, 1605, 1606, 1607, 1608, 1609, 1610, 1611] (by decide +kernel) (by decide +kernel)
set_option maxRecDepth 20000 in
theorem gL_law__X12_sweep : GoodIn wsL_law_ (wsV RL 171 RX12 yX12_sweep wsX12_sweep) := goodIn_app (goodIn_of _ (by decide +kernel)) ggL_law__X12_sweep
set_option maxRecDepth 20000 in
theorem ggL_law__L_weeks : GoodIn wsL_law_ wsL_weeks := goodIn_ca (goodIn_r _ [931, 181, 932, 933, 934, 2, 935, 52, 25, 33, 29, 879, 880, 881, 187, 188, 842, 843, 844, 51, 845, 132, 133, 135, 137, 846, 271, 272, 24, 273, 274, 275, 276, 71, 277, 278, 72, 279, 73, 77, 78, 74, 280, 281, 282, 283, 75, 79, 80, 81, 82, 83, 84, 85, 847, 848, 849, 32, 850, 101, 102, 851, 936, 937, 938, 939, 421, 422, 423, 424, 940, 941, 942, 943, 944, 945, 409, 410, 411, 412, 332, 333, 334, 413, 414, 415, 416, 417, 418, 419, 420, 425, 426, 427, 946, 947, 948, 949, 950, 757, 758, 759, 632, 633, 634, 28, 635, 90, 93, 91, 92, 636, 637, 638, 639, 94, 96, 640, 641, 642, 643, 644, 645, 646, 647, 648, 649, 951, 952, 953, 954, 955, 761, 762, 763, 764, 765, 766, 767, 956, 957, 958, 959, 960, 853, 854, 855, 961, 962, 963, 964, 965, 629, 630, 631, 966, 967, 968, 969, 970, 971, 972, 973, 1572, 1573, 1574, 1575, 1576, 1577, 1578, 1579, 1580, 1581, 1582, 1583, 1584, 1585, 1586, 1587, 1588, 1589, 1590, 1591, 1657, 1658, 1659, 1660, 1616, 1617, 1618, 1619, 1620, 1621, 1622, 1623, 1624, 1625, 1626, 1627, 1628, 1629, 1630, 1631, 1632, 1633, 1634, 1635, 1643, 1644, 1636, 1637, 1638, 1639, 1640, 1641, 1642] (by decide +kernel) (by decide +kernel)) (goodIn_sub (fun _ h => List.mem_append_left _ (List.mem_append_left _ (List.mem_append_left _ (List.mem_append_left _ (List.mem_append_right _ h))))) (by decide +kernel))
set_option maxRecDepth 20000 in
theorem gL_law__L_weeks : GoodIn wsL_law_ (va_wsS RL 172 yL_weeks wsL_weeks) := goodIn_app (goodIn_of _ (by decide +kernel)) ggL_law__L_weeks
set_option maxRecDepth 20000 in
theorem ggL_law__X12_weeks : GoodIn wsL_law_ wsX12_weeks := goodIn_r _ [977, 167, 658, 659, 5, 660, 561, 562, 563, 564, 864, 865, 866, 867, 437, 148, 144, 978, 979, 980, 981, 513, 514, 515, 516, 860, 861, 862, 863, 681, 682, 683, 684, 521, 522, 523, 982, 983, 984, 985, 986, 987, 988, 989, 990, 991, 992, 701, 426, 423, 427, 700, 422, 424, 993, 994, 995, 996, 997, 998, 999, 1000, 1001, 1002, 1003, 1004, 1005, 501, 502, 503, 504, 479, 480, 481, 482, 689, 690, 691, 788, 789, 790, 791, 677, 678, 679, 680, 792, 793, 794, 795, 714, 715, 716, 717, 718, 719, 720, 721, 152, 722, 723, 724, 725, 726, 727, 728, 729, 730, 731, 732, 706, 707, 708, 709, 669, 670, 671, 672, 491, 492, 493, 661, 662, 663, 664, 665, 666, 667, 668, 673, 674, 675, 676, 685, 686, 687, 688, 692, 693, 694, 695, 494, 495, 496, 696, 697, 698, 699, 733, 734, 735, 702, 703, 704, 705, 1006, 1007, 1008, 1009, 1010, 1011, 1012, 1013, 868, 869, 870, 871, 784, 785, 786, 787, 1014, 1015, 1016, 1017, 710, 711, 712, 713, 1592, 1593, 1594, 1595, 1596, 1597, 1598, 1599, 1600, 1601, 1602, 1603, 1604, 1605, 1606, 1607, 1608, 1609, 1610, 1611] (by decide +kernel) (by decide +kernel)
set_option maxRecDepth 20000 in
theorem gL_law__X12_weeks : GoodIn wsL_law_ (wsV RL 174 RX12 yX12_weeks wsX12_weeks) := goodIn_app (goodIn_of _ (by decide +kernel)) ggL_law__X12_weeks
set_option maxRecDepth 20000 in
theorem ggL_law__X11_view : GoodIn wsL_law_ wsX11_view := goodIn_r _ [1021, 25, 746, 751, 332, 333, 24, 334, 274, 1572, 1573, 1574, 1575, 1576, 1577, 1578, 1579, 1580, 1581, 1582, 1583, 1584, 1585, 1586, 1587, 1588, 1589, 1590, 1591, 1616, 1617, 1618, 1619, 1620, 1621, 1622, 1623, 1624, 1625, 1626, 1627, 1628, 1629, 1630, 1631, 1632, 1633, 1634, 1635] (by decide +kernel) (by decide +kernel)
set_option maxRecDepth 20000 in
theorem gL_law__X11_view : GoodIn wsL_law_ (wsV RL 175 RX11 yX11_view wsX11_view) := goodIn_app (goodIn_of _ (by decide +kernel)) ggL_law__X11_view
set_option maxRecDepth 20000 in
theorem ggL_law__X12_view : GoodIn wsL_law_ wsX12_view := goodIn_r _ [1025, 167, 501, 502, 503, 5, 504, 479, 480, 481, 482, 144, 726, 727, 728, 729, 730, 731, 732, 706, 707, 708, 709, 669, 670, 671, 672, 491, 492, 493, 661, 662, 663, 664, 665, 666, 667, 668, 673, 674, 675, 676, 677, 678, 679, 680, 513, 514, 515, 516, 681, 682, 683, 684, 521, 522, 523, 685, 686, 687, 688, 689, 690, 691, 692, 693, 694, 695, 494, 495, 496, 696, 697, 698, 699, 700, 422, 423, 424, 701, 426, 427, 733, 734, 735, 1592, 1593, 1594, 1595, 1596, 1597, 1598, 1599, 1600, 1601, 1602, 1603, 1604, 1605, 1606, 1607, 1608, 1609, 1610, 1611] (by decide +kernel) (by decide +kernel)
set_option maxRecDepth 20000 in
theorem gL_law__X12_view : GoodIn wsL_law_ (wsV RL 178 RX12 yX12_view wsX12_view) := goodIn_app (goodIn_of _ (by decide +kernel)) ggL_law__X12_view
set_option maxRecDepth 20000 in
theorem ggL_law__X11_well : GoodIn wsL_law_ wsX11_well := goodIn_r _ [1029, 25, 746, 751, 332, 333, 24, 334, 274, 1572, 1573, 1574, 1575, 1576, 1577, 1578, 1579, 1580, 1581, 1582, 1583, 1584, 1585, 1586, 1587, 1588, 1589, 1590, 1591, 1616, 1617, 1618, 1619, 1620, 1621, 1622, 1623, 1624, 1625, 1626, 1627, 1628, 1629, 1630, 1631, 1632, 1633, 1634, 1635] (by decide +kernel) (by decide +kernel)
set_option maxRecDepth 20000 in
theorem gL_law__X11_well : GoodIn wsL_law_ (wsV RL 179 RX11 yX11_well wsX11_well) := goodIn_app (goodIn_of _ (by decide +kernel)) ggL_law__X11_well
set_option maxRecDepth 20000 in
theorem ggL_law__X12_well : GoodIn wsL_law_ wsX12_well := goodIn_r _ [1033, 167, 501, 502, 503, 5, 504, 479, 480, 481, 482, 144, 726, 727, 728, 729, 730, 731, 732, 706, 707, 708, 709, 669, 670, 671, 672, 491, 492, 493, 661, 662, 663, 664, 665, 666, 667, 668, 673, 674, 675, 676, 677, 678, 679, 680, 513, 514, 515, 516, 681, 682, 683, 684, 521, 522, 523, 685, 686, 687, 688, 689, 690, 691, 692, 693, 694, 695, 494, 495, 496, 696, 697, 698, 699, 700, 422, 423, 424, 701, 426, 427, 733, 734, 735, 1592, 1593, 1594, 1595, 1596, 1597, 1598, 1599, 1600, 1601, 1602, 1603, 1604, 1605, 1606, 1607, 1608, 1609, 1610, 1611] (by decide +kernel) (by decide +kernel)
set_option maxRecDepth 20000 in
theorem gL_law__X12_well : GoodIn wsL_law_ (wsV RL 182 RX12 yX12_well wsX12_well) := goodIn_app (goodIn_of _ (by decide +kernel)) ggL_law__X12_well
set_option maxRecDepth 20000 in
theorem ggL_law__X11_twins : GoodIn wsL_law_ wsX11_twins := goodIn_r _ [1037, 25, 622, 615, 623, 414, 415, 24, 416, 77, 84, 417, 418, 419, 420, 71, 421, 422, 423, 424, 425, 426, 427, 1572, 1573, 1574, 1575, 1576, 1577, 1578, 1579, 1580, 1581, 1582, 1583, 1584, 1585, 1586, 1587, 1588, 1589, 1590, 1591, 1616, 1617, 1618, 1619, 1620, 1621, 1622, 1623, 1624, 1625, 1626, 1627, 1628, 1629, 1630, 1631, 1632, 1633, 1634, 1635] (by decide +kernel) (by decide +kernel)
set_option maxRecDepth 20000 in
theorem gL_law__X11_twins : GoodIn wsL_law_ (wsV RL 183 RX11 yX11_twins wsX11_twins) := goodIn_app (goodIn_of _ (by decide +kernel)) ggL_law__X11_twins
set_option maxRecDepth 20000 in
theorem ggL_law__X12_twins : GoodIn wsL_law_ wsX12_twins := goodIn_r _ [1041, 167, 479, 480, 481, 5, 482, 144, 706, 707, 708, 709, 669, 670, 671, 672, 491, 492, 493, 661, 662, 663, 664, 665, 666, 667, 668, 673, 674, 675, 676, 677, 678, 679, 680, 513, 514, 515, 516, 681, 682, 683, 684, 521, 522, 523, 685, 686, 687, 688, 689, 690, 691, 692, 693, 694, 695, 494, 495, 496, 696, 697, 698, 699, 700, 422, 423, 424, 701, 426, 427, 1592, 1593, 1594, 1595, 1596, 1597, 1598, 1599, 1600, 1601, 1602, 1603, 1604, 1605, 1606, 1607, 1608, 1609, 1610, 1611] (by decide +kernel) (by decide +kernel)
set_option maxRecDepth 20000 in
theorem gL_law__X12_twins : GoodIn wsL_law_ (wsV RL 186 RX12 yX12_twins wsX12_twins) := goodIn_app (goodIn_of _ (by decide +kernel)) ggL_law__X12_twins
set_option maxRecDepth 20000 in
theorem ggL_law__L_best : GoodIn wsL_law_ wsL_best := goodIn_ca (goodIn_r _ [1044, 604, 1045, 1046, 1047, 2, 1048, 25, 616, 617, 618, 619, 620, 621, 622, 1049, 1050, 1051, 1052, 1053, 1054, 1055, 423, 1056, 1057, 1058, 1059, 1060, 1061, 1062, 1572, 1573, 1574, 1575, 1576, 1577, 1578, 1579, 1580, 1581, 1582, 1583, 1584, 1585, 1586, 1587, 1588, 1589, 1590, 1591, 1616, 1617, 1618, 1619, 1620, 1621, 1622, 1623, 1624, 1625, 1626, 1627, 1628, 1629, 1630, 1631, 1632, 1633, 1634, 1635] (by decide +kernel) (by decide +kernel)) (goodIn_sub (fun _ h => List.mem_append_left _ (List.mem_append_right _ h)) (by decide +kernel))
set_option maxRecDepth 20000 in
theorem gL_law__L_best : GoodIn wsL_law_ (va_wsS RL 187 yL_best wsL_best) := goodIn_app (goodIn_of _ (by decide +kernel)) ggL_law__L_best
set_option maxRecDepth 20000 in
theorem ggL_law__X12_best : GoodIn wsL_law_ wsX12_best := goodIn_r _ [1066, 167, 1067, 1055, 423, 1056, 700, 422, 424, 654, 655, 656, 5, 657, 479, 480, 481, 482, 144, 658, 659, 660, 561, 562, 563, 564, 1068, 1069, 1070, 1071, 673, 674, 675, 676, 677, 678, 679, 680, 513, 514, 515, 516, 681, 682, 683, 684, 521, 522, 523, 685, 686, 687, 688, 689, 690, 691, 692, 693, 694, 695, 494, 495, 496, 1072, 1073, 1074, 1075, 1592, 1593, 1594, 1595, 1596, 1597, 1598, 1599, 1600, 1601, 1602, 1603, 1604, 1605, 1606, 1607, 1608, 1609, 1610, 1611] (by decide +kernel) (by decide +kernel)
set_option maxRecDepth 20000 in
theorem gL_law__X12_best : GoodIn wsL_law_ (wsV RL 189 RX12 yX12_best wsX12_best) := goodIn_app (goodIn_of _ (by decide +kernel)) ggL_law__X12_best
set_option maxRecDepth 20000 in
theorem ggL_law__L_stand : GoodIn wsL_law_ wsL_stand := goodIn_ca (goodIn_ca (goodIn_r _ [1078, 604, 181, 1079, 1080, 1081, 2, 1082, 25, 616, 617, 618, 619, 620, 621, 622, 879, 880, 881, 187, 188, 1083, 1084, 1051, 1085, 1053, 1086, 753, 754, 24, 755, 275, 83, 1058, 1059, 1060, 1057, 1061, 1062, 1087, 418, 419, 420, 71, 421, 422, 423, 424, 425, 426, 427, 1088, 1089, 1090, 1091, 81, 1092, 983, 984, 985, 986, 987, 988, 1572, 1573, 1574, 1575, 1576, 1577, 1578, 1579, 1580, 1581, 1582, 1583, 1584, 1585, 1586, 1587, 1588, 1589, 1590, 1591, 1616, 1617, 1618, 1619, 1620, 1621, 1622, 1623, 1624, 1625, 1626, 1627, 1628, 1629, 1630, 1631, 1632, 1633, 1634, 1635] (by decide +kernel) (by decide +kernel)) (goodIn_sub (fun _ h => List.mem_append_left _ (List.mem_append_right _ h)) (by decide +kernel))) (goodIn_sub (fun _ h => List.mem_append_left _ (List.mem_append_left _ (List.mem_append_left _ (List.mem_append_left _ (List.mem_append_right _ h))))) (by decide +kernel))
set_option maxRecDepth 20000 in
theorem gL_law__L_stand : GoodIn wsL_law_ (va_wsS RL 190 yL_stand wsL_stand) := goodIn_app (goodIn_of _ (by decide +kernel)) ggL_law__L_stand
set_option maxRecDepth 20000 in
theorem ggL_law__X12_stand : GoodIn wsL_law_ wsX12_stand := goodIn_r _ [1096, 167, 654, 655, 656, 5, 657, 479, 480, 481, 482, 144, 658, 659, 660, 561, 562, 563, 564, 1097, 1098, 1099, 1100, 1101, 1102, 1103, 1104, 700, 422, 423, 424, 1072, 1073, 1074, 1075, 677, 678, 679, 680, 513, 514, 515, 516, 681, 682, 683, 684, 521, 522, 523, 1068, 1069, 1070, 1071, 673, 674, 675, 676, 685, 686, 687, 688, 689, 690, 691, 692, 693, 694, 695, 494, 495, 496, 696, 697, 698, 699, 701, 426, 427, 982, 983, 984, 985, 986, 987, 988, 1592, 1593, 1594, 1595, 1596, 1597, 1598, 1599, 1600, 1601, 1602, 1603, 1604, 1605, 1606, 1607, 1608, 1609, 1610, 1611] (by decide +kernel) (by decide +kernel)
set_option maxRecDepth 20000 in
theorem gL_law__X12_stand : GoodIn wsL_law_ (wsV RL 192 RX12 yX12_stand wsX12_stand) := goodIn_app (goodIn_of _ (by decide +kernel)) ggL_law__X12_stand
set_option maxRecDepth 20000 in
theorem ggL_law__L_heave : GoodIn wsL_law_ wsL_heave := goodIn_ca (goodIn_ca (goodIn_r _ [1107, 604, 181, 1108, 1109, 1110, 2, 1111, 25, 616, 617, 618, 619, 620, 621, 622, 879, 880, 881, 187, 188, 1083, 1084, 1051, 1085, 1053, 1086, 753, 754, 24, 755, 275, 83, 1058, 1059, 1060, 1057, 1061, 1062, 1087, 418, 419, 420, 71, 421, 422, 423, 424, 425, 426, 427, 1088, 1089, 1090, 1091, 81, 1092, 983, 984, 985, 986, 987, 988, 1112, 1572, 1573, 1574, 1575, 1576, 1577, 1578, 1579, 1580, 1581, 1582, 1583, 1584, 1585, 1586, 1587, 1588, 1589, 1590, 1591, 1616, 1617, 1618, 1619, 1620, 1621, 1622, 1623, 1624, 1625, 1626, 1627, 1628, 1629, 1630, 1631, 1632, 1633, 1634, 1635] (by decide +kernel) (by decide +kernel)) (goodIn_sub (fun _ h => List.mem_append_left _ (List.mem_append_right _ h)) (by decide +kernel))) (goodIn_sub (fun _ h => List.mem_append_left _ (List.mem_append_left _ (List.mem_append_left _ (List.mem_append_left _ (List.mem_append_right _ h))))) (by decide +kernel))
set_option maxRecDepth 20000 in
theorem gL_law__L_heave : GoodIn wsL_law_ (va_wsS RL 193 yL_heave wsL_heave) := goodIn_app (goodIn_of _ (by decide +kernel)) ggL_law__L_heave
set_option maxRecDepth 20000 in
theorem ggL_law__X12_heave : GoodIn wsL_law_ wsX12_heave := goodIn_r _ [1116, 167, 654, 655, 656, 5, 657, 479, 480, 481, 482, 144, 658, 659, 660, 561, 562, 563, 564, 1097, 1098, 1099, 1100, 1101, 1102, 1103, 1104, 700, 422, 423, 424, 1072, 1073, 1074, 1075, 677, 678, 679, 680, 513, 514, 515, 516, 681, 682, 683, 684, 521, 522, 523, 1068, 1069, 1070, 1071, 673, 674, 675, 676, 685, 686, 687, 688, 689, 690, 691, 692, 693, 694, 695, 494, 495, 496, 696, 697, 698, 699, 701, 426, 427, 982, 983, 984, 985, 986, 987, 988, 1592, 1593, 1594, 1595, 1596, 1597, 1598, 1599, 1600, 1601, 1602, 1603, 1604, 1605, 1606, 1607, 1608, 1609, 1610, 1611] (by decide +kernel) (by decide +kernel)
set_option maxRecDepth 20000 in
theorem gL_law__X12_heave : GoodIn wsL_law_ (wsV RL 196 RX12 yX12_heave wsX12_heave) := goodIn_app (goodIn_of _ (by decide +kernel)) ggL_law__X12_heave
set_option maxRecDepth 20000 in
theorem ggL_law__L_breaks : GoodIn wsL_law_ wsL_breaks := goodIn_ca (goodIn_r _ [1119, 604, 1120, 1121, 1122, 2, 1123, 616, 617, 618, 619, 620, 621, 25, 622, 1124, 1125, 1126, 1127, 615, 34, 29, 270, 271, 272, 24, 273, 274, 275, 276, 71, 277, 278, 72, 279, 73, 77, 78, 74, 280, 281, 282, 283, 75, 79, 80, 81, 82, 83, 84, 85, 1128, 962, 963, 964, 421, 422, 423, 424, 965, 629, 630, 631, 632, 633, 634, 28, 635, 90, 93, 91, 92, 636, 637, 638, 639, 94, 96, 640, 641, 642, 643, 644, 645, 646, 647, 648, 649, 966, 967, 968, 969, 1129, 971, 972, 973, 945, 409, 410, 411, 412, 332, 333, 334, 413, 414, 415, 416, 417, 418, 419, 420, 425, 426, 427, 1572, 1573, 1574, 1575, 1576, 1577, 1578, 1579, 1580, 1581, 1582, 1583, 1584, 1585, 1586, 1587, 1588, 1589, 1590, 1591, 1616, 1617, 1618, 1619, 1620, 1621, 1622, 1623, 1624, 1625, 1626, 1627, 1628, 1629, 1630, 1631, 1632, 1633, 1634, 1635, 1636, 1637, 1638, 1639, 1640, 1641, 1642] (by decide +kernel) (by decide +kernel)) (goodIn_sub (fun _ h => List.mem_append_left _ (List.mem_append_right _ h)) (by decide +kernel))
set_option maxRecDepth 20000 in
theorem gL_law__L_breaks : GoodIn wsL_law_ (va_wsS RL 197 yL_breaks wsL_breaks) := goodIn_app (goodIn_of _ (by decide +kernel)) ggL_law__L_breaks
set_option maxRecDepth 20000 in
theorem ggL_law__X12_breaks : GoodIn wsL_law_ wsX12_breaks := goodIn_r _ [1133, 167, 654, 655, 656, 5, 657, 479, 480, 481, 482, 144, 658, 659, 660, 561, 562, 563, 564, 706, 707, 708, 709, 669, 670, 671, 672, 491, 492, 493, 1134, 1135, 1136, 1137, 1138, 1139, 1140, 1141, 147, 989, 990, 991, 992, 701, 426, 423, 427, 700, 422, 424, 993, 994, 995, 996, 997, 998, 999, 1000, 1001, 1002, 1003, 1004, 1005, 501, 502, 503, 504, 689, 690, 691, 788, 789, 790, 791, 677, 678, 679, 680, 513, 514, 515, 516, 681, 682, 683, 684, 521, 522, 523, 792, 793, 794, 795, 714, 715, 716, 717, 718, 719, 720, 721, 152, 722, 723, 724, 725, 726, 727, 728, 729, 730, 731, 732, 661, 662, 663, 664, 665, 666, 667, 668, 673, 674, 675, 676, 685, 686, 687, 688, 692, 693, 694, 695, 494, 495, 496, 696, 697, 698, 699, 733, 734, 735, 702, 703, 704, 705, 1006, 1007, 1008, 1009, 1010, 1011, 1012, 1013, 868, 869, 870, 871, 784, 785, 786, 787, 1014, 1015, 1016, 1017, 710, 711, 712, 713, 1142, 1143, 1144, 1145, 1592, 1593, 1594, 1595, 1596, 1597, 1598, 1599, 1600, 1601, 1602, 1603, 1604, 1605, 1606, 1607, 1608, 1609, 1610, 1611] (by decide +kernel) (by decide +kernel)
set_option maxRecDepth 20000 in
theorem gL_law__X12_breaks : GoodIn wsL_law_ (wsV RL 199 RX12 yX12_breaks wsX12_breaks) := goodIn_app (goodIn_of _ (by decide +kernel)) ggL_law__X12_breaks
set_option maxRecDepth 20000 in
theorem ggL_law__L_more : GoodIn wsL_law_ wsL_more := goodIn_ca (goodIn_r _ [1148, 604, 1149, 1150, 1151, 2, 1152, 25, 615, 616, 617, 618, 619, 620, 621, 622, 1153, 967, 968, 24, 969, 74, 75, 84, 1572, 1573, 1574, 1575, 1576, 1577, 1578, 1579, 1580, 1581, 1582, 1583, 1584, 1585, 1586, 1587, 1588, 1589, 1590, 1591, 1616, 1617, 1618, 1619, 1620, 1621, 1622, 1623, 1624, 1625, 1626, 1627, 1628, 1629, 1630, 1631, 1632, 1633, 1634, 1635] (by decide +kernel) (by decide +kernel)) (goodIn_sub (fun _ h => List.mem_append_left _ (List.mem_append_right _ h)) (by decide +kernel))
set_option maxRecDepth 20000 in
theorem gL_law__L_more : GoodIn wsL_law_ (va_wsS RL 200 yL_more wsL_more) := goodIn_app (goodIn_of _ (by decide +kernel)) ggL_law__L_more
set_option maxRecDepth 20000 in
theorem ggL_law__X12_more : GoodIn wsL_law_ wsX12_more := goodIn_r _ [1157, 167, 654, 655, 656, 5, 657, 479, 480, 481, 482, 144, 658, 659, 660, 561, 562, 563, 564, 706, 707, 708, 709, 669, 670, 671, 672, 491, 492, 493, 673, 674, 675, 676, 677, 678, 679, 680, 513, 514, 515, 516, 681, 682, 683, 684, 521, 522, 523, 685, 686, 687, 688, 689, 690, 691, 692, 693, 694, 695, 494, 495, 496, 1592, 1593, 1594, 1595, 1596, 1597, 1598, 1599, 1600, 1601, 1602, 1603, 1604, 1605, 1606, 1607, 1608, 1609, 1610, 1611] (by decide +kernel) (by decide +kernel)
set_option maxRecDepth 20000 in
theorem gL_law__X12_more : GoodIn wsL_law_ (wsV RL 202 RX12 yX12_more wsX12_more) := goodIn_app (goodIn_of _ (by decide +kernel)) ggL_law__X12_more
set_option maxRecDepth 20000 in
theorem ggL_law__X11_last : GoodIn wsL_law_ wsX11_last := goodIn_r _ [1161, 25, 622, 615, 1124, 1125, 1126, 2, 1127, 34, 29, 270, 271, 272, 24, 273, 274, 275, 276, 71, 277, 278, 72, 279, 73, 77, 78, 74, 280, 281, 282, 283, 75, 79, 80, 81, 82, 83, 84, 85, 1128, 962, 963, 964, 421, 422, 423, 424, 965, 629, 630, 631, 632, 633, 634, 28, 635, 90, 93, 91, 92, 636, 637, 638, 639, 94, 96, 640, 641, 642, 643, 644, 645, 646, 647, 648, 649, 966, 967, 968, 969, 1129, 971, 972, 973, 945, 409, 410, 411, 412, 332, 333, 334, 413, 414, 415, 416, 417, 418, 419, 420, 425, 426, 427, 1572, 1573, 1574, 1575, 1576, 1577, 1578, 1579, 1580, 1581, 1582, 1583, 1584, 1585, 1586, 1587, 1588, 1589, 1590, 1591, 1616, 1617, 1618, 1619, 1620, 1621, 1622, 1623, 1624, 1625, 1626, 1627, 1628, 1629, 1630, 1631, 1632, 1633, 1634, 1635, 1636, 1637, 1638, 1639, 1640, 1641, 1642] (by decide +kernel) (by decide +kernel)
set_option maxRecDepth 20000 in
theorem gL_law__X11_last : GoodIn wsL_law_ (wsV RL 203 RX11 yX11_last wsX11_last) := goodIn_app (goodIn_of _ (by decide +kernel)) ggL_law__X11_last
set_option maxRecDepth 20000 in
theorem ggL_law__X12_last : GoodIn wsL_law_ wsX12_last := goodIn_r _ [1165, 167, 701, 426, 423, 427, 479, 480, 481, 5, 482, 144, 706, 707, 708, 709, 669, 670, 671, 672, 491, 492, 493, 1134, 1135, 1136, 1137, 1138, 1139, 1140, 1141, 147, 989, 990, 991, 992, 700, 422, 424, 993, 994, 995, 996, 997, 998, 999, 1000, 1001, 1002, 1003, 1004, 1005, 501, 502, 503, 504, 689, 690, 691, 788, 789, 790, 791, 677, 678, 679, 680, 513, 514, 515, 516, 681, 682, 683, 684, 521, 522, 523, 792, 793, 794, 795, 714, 715, 716, 717, 718, 719, 720, 721, 152, 722, 723, 724, 725, 726, 727, 728, 729, 730, 731, 732, 661, 662, 663, 664, 665, 666, 667, 668, 673, 674, 675, 676, 685, 686, 687, 688, 692, 693, 694, 695, 494, 495, 496, 696, 697, 698, 699, 733, 734, 735, 702, 703, 704, 705, 1006, 1007, 1008, 1009, 1010, 1011, 1012, 1013, 868, 869, 870, 871, 784, 785, 786, 787, 1014, 1015, 1016, 1017, 710, 711, 712, 713, 1142, 1143, 1144, 1145, 1592, 1593, 1594, 1595, 1596, 1597, 1598, 1599, 1600, 1601, 1602, 1603, 1604, 1605, 1606, 1607, 1608, 1609, 1610, 1611] (by decide +kernel) (by decide +kernel)
set_option maxRecDepth 20000 in
theorem gL_law__X12_last : GoodIn wsL_law_ (wsV RL 206 RX12 yX12_last wsX12_last) := goodIn_app (goodIn_of _ (by decide +kernel)) ggL_law__X12_last
set_option maxRecDepth 20000 in
theorem ggL_law__L_match : GoodIn wsL_law_ wsL_match := goodIn_ca (goodIn_r _ [1168, 604, 1169, 1170, 1171, 2, 1172, 25, 745, 747, 748, 749, 750, 620, 621, 751, 332, 333, 24, 334, 274, 1173, 983, 984, 985, 986, 987, 988, 1174, 1175, 1176, 1177, 1178, 1179, 1180, 1181, 1055, 423, 1056, 1182, 422, 424, 1183, 1184, 1185, 1186, 1187, 1188, 1189, 1190, 1191, 1572, 1573, 1574, 1575, 1576, 1577, 1578, 1579, 1580, 1581, 1582, 1583, 1584, 1585, 1586, 1587, 1588, 1589, 1590, 1591, 1616, 1617, 1618, 1619, 1620, 1621, 1622, 1623, 1624, 1625, 1626, 1627, 1628, 1629, 1630, 1631, 1632, 1633, 1634, 1635] (by decide +kernel) (by decide +kernel)) (goodIn_sub (fun _ h => List.mem_append_left _ (List.mem_append_right _ h)) (by decide +kernel))
set_option maxRecDepth 20000 in
theorem gL_law__L_match : GoodIn wsL_law_ (va_wsS RL 207 yL_match wsL_match) := goodIn_app (goodIn_of _ (by decide +kernel)) ggL_law__L_match
set_option maxRecDepth 20000 in
theorem ggL_law__X12_match : GoodIn wsL_law_ wsX12_match := goodIn_r _ [1195, 167, 153, 780, 781, 782, 5, 783, 501, 502, 503, 504, 479, 480, 481, 482, 144, 658, 659, 660, 561, 562, 563, 564, 982, 983, 984, 985, 986, 987, 988, 1196, 1197, 1198, 1199, 1104, 700, 422, 423, 424, 1200, 1201, 1202, 1203, 1204, 1205, 1206, 689, 690, 691, 1207, 1208, 1209, 1210, 1067, 1055, 1056, 673, 674, 675, 676, 677, 678, 679, 680, 513, 514, 515, 516, 681, 682, 683, 684, 521, 522, 523, 685, 686, 687, 688, 692, 693, 694, 695, 494, 495, 496, 1211, 1212, 1213, 1214, 1592, 1593, 1594, 1595, 1596, 1597, 1598, 1599, 1600, 1601, 1602, 1603, 1604, 1605, 1606, 1607, 1608, 1609, 1610, 1611] (by decide +kernel) (by decide +kernel)
set_option maxRecDepth 20000 in
theorem gL_law__X12_match : GoodIn wsL_law_ (wsV RL 209 RX12 yX12_match wsX12_match) := goodIn_app (goodIn_of _ (by decide +kernel)) ggL_law__X12_match
set_option maxRecDepth 20000 in
theorem ggL_law__L_has : GoodIn wsL_law_ wsL_has := goodIn_ca (goodIn_ca (goodIn_r _ [1217, 604, 181, 1218, 1219, 1220, 2, 1221, 48, 1222, 1223, 1224, 1225, 1226, 1227, 187, 188, 14, 25, 191, 192, 193, 194, 15, 616, 617, 618, 619, 620, 621, 622, 1228, 1229, 47, 1230, 1231, 1232, 1233, 1234, 124, 125, 126, 1235, 1236, 1237, 24, 1238, 1239, 753, 754, 755, 275, 83, 1240, 1089, 1090, 1091, 81, 1241, 1242, 1243, 1244, 1245, 1246, 1247, 1248, 418, 419, 420, 71, 421, 422, 423, 424, 425, 426, 427, 1572, 1573, 1574, 1575, 1576, 1577, 1578, 1579, 1580, 1581, 1582, 1583, 1584, 1585, 1586, 1587, 1588, 1589, 1590, 1591, 1653, 1654, 1655, 1656, 1616, 1617, 1618, 1619, 1620, 1621, 1622, 1623, 1624, 1625, 1626, 1627, 1628, 1629, 1630, 1631, 1632, 1633, 1634, 1635] (by decide +kernel) (by decide +kernel)) (goodIn_sub (fun _ h => List.mem_append_left _ (List.mem_append_left _ (List.mem_append_left _ (List.mem_append_left _ (List.mem_append_right _ h))))) (by decide +kernel))) (goodIn_sub (fun _ h => List.mem_append_left _ (List.mem_append_right _ h)) (by decide +kernel))
set_option maxRecDepth 20000 in
theorem gL_law__L_has : GoodIn wsL_law_ (va_wsS RL 210 yL_has wsL_has) := goodIn_app (goodIn_of _ (by decide +kernel)) ggL_law__L_has
set_option maxRecDepth 20000 in
theorem ggL_law__X12_has : GoodIn wsL_law_ wsX12_has := goodIn_r _ [1252, 445, 446, 447, 5, 448, 167, 168, 444, 443, 654, 655, 656, 657, 479, 480, 481, 482, 144, 658, 659, 660, 561, 562, 563, 564, 1253, 1254, 1255, 1256, 149, 978, 979, 980, 981, 513, 514, 515, 516, 860, 861, 862, 863, 681, 682, 683, 684, 521, 522, 523, 1257, 1258, 1259, 1260, 1261, 1262, 1263, 1264, 673, 674, 675, 676, 677, 678, 679, 680, 685, 686, 687, 688, 689, 690, 691, 692, 693, 694, 695, 494, 495, 496, 696, 697, 698, 699, 700, 422, 423, 424, 701, 426, 427, 1592, 1593, 1594, 1595, 1596, 1597, 1598, 1599, 1600, 1601, 1602, 1603, 1604, 1605, 1606, 1607, 1608, 1609, 1610, 1611] (by decide +kernel) (by decide +kernel)
set_option maxRecDepth 20000 in
theorem gL_law__X12_has : GoodIn wsL_law_ (wsV RL 212 RX12 yX12_has wsX12_has) := goodIn_app (goodIn_of _ (by decide +kernel)) ggL_law__X12_has
set_option maxRecDepth 20000 in
theorem ggL_law__L_ask : GoodIn wsL_law_ wsL_ask := goodIn_ca (goodIn_ca (goodIn_r _ [1267, 604, 181, 1268, 1269, 1270, 2, 1271, 48, 1223, 25, 1224, 1225, 1226, 1227, 187, 188, 14, 191, 192, 193, 194, 15, 616, 617, 618, 619, 620, 621, 622, 1228, 1229, 47, 1230, 1231, 1232, 1233, 1234, 124, 125, 126, 1235, 1236, 1237, 24, 1238, 1239, 753, 754, 755, 275, 83, 1240, 1089, 1090, 1091, 81, 1241, 1242, 1243, 1244, 1245, 1246, 1247, 1248, 418, 419, 420, 71, 421, 422, 423, 424, 425, 426, 427, 1272, 1273, 1274, 1275, 1276, 1277, 1278, 1279, 127, 1280, 1572, 1573, 1574, 1575, 1576, 1577, 1578, 1579, 1580, 1581, 1582, 1583, 1584, 1585, 1586, 1587, 1588, 1589, 1590, 1591, 1653, 1654, 1655, 1656, 1616, 1617, 1618, 1619, 1620, 1621, 1622, 1623, 1624, 1625, 1626, 1627, 1628, 1629, 1630, 1631, 1632, 1633, 1634, 1635] (by decide +kernel) (by decide +kernel)) (goodIn_sub (fun _ h => List.mem_append_left _ (List.mem_append_left _ (List.mem_append_left _ (List.mem_append_left _ (List.mem_append_right _ h))))) (by decide +kernel))) (goodIn_sub (fun _ h => List.mem_append_left _ (List.mem_append_right _ h)) (by decide +kernel))
set_option maxRecDepth 20000 in
theorem gL_law__L_ask : GoodIn wsL_law_ (va_wsS RL 213 yL_ask wsL_ask) := goodIn_app (goodIn_of _ (by decide +kernel)) ggL_law__L_ask
set_option maxRecDepth 20000 in
theorem ggL_law__X12_ask : GoodIn wsL_law_ wsX12_ask := goodIn_r _ [1284, 1104, 700, 422, 423, 424, 445, 446, 447, 5, 448, 167, 168, 444, 443, 654, 655, 656, 657, 479, 480, 481, 482, 144, 658, 659, 660, 561, 562, 563, 564, 1253, 1254, 1255, 1256, 149, 978, 979, 980, 981, 513, 514, 515, 516, 860, 861, 862, 863, 681, 682, 683, 684, 521, 522, 523, 1257, 1258, 1259, 1260, 1261, 1262, 1263, 1264, 673, 674, 675, 676, 677, 678, 679, 680, 685, 686, 687, 688, 689, 690, 691, 692, 693, 694, 695, 494, 495, 496, 696, 697, 698, 699, 701, 426, 427, 1285, 1286, 1287, 1288, 154, 1592, 1593, 1594, 1595, 1596, 1597, 1598, 1599, 1600, 1601, 1602, 1603, 1604, 1605, 1606, 1607, 1608, 1609, 1610, 1611] (by decide +kernel) (by decide +kernel)
set_option maxRecDepth 20000 in
theorem gL_law__X12_ask : GoodIn wsL_law_ (wsV RL 215 RX12 yX12_ask wsX12_ask) := goodIn_app (goodIn_of _ (by decide +kernel)) ggL_law__X12_ask
set_option maxRecDepth 20000 in
theorem ggL_law__L_ballast : GoodIn wsL_law_ wsL_ballast := goodIn_ca (goodIn_r _ [1291, 604, 1292, 1293, 1294, 2, 1295, 25, 616, 617, 618, 619, 620, 621, 622, 1296, 1297, 1051, 1298, 1299, 1300, 1301, 1302, 1303, 1304, 1053, 1305, 1087, 418, 419, 24, 420, 71, 421, 422, 423, 424, 425, 426, 427, 1572, 1573, 1574, 1575, 1576, 1577, 1578, 1579, 1580, 1581, 1582, 1583, 1584, 1585, 1586, 1587, 1588, 1589, 1590, 1591, 1616, 1617, 1618, 1619, 1620, 1621, 1622, 1623, 1624, 1625, 1626, 1627, 1628, 1629, 1630, 1631, 1632, 1633, 1634, 1635] (by decide +kernel) (by decide +kernel)) (goodIn_sub (fun _ h => List.mem_append_left _ (List.mem_append_right _ h)) (by decide +kernel))
set_option maxRecDepth 20000 in
theorem gL_law__L_ballast : GoodIn wsL_law_ (va_wsS RL 216 yL_ballast wsL_ballast) := goodIn_app (goodIn_of _ (by decide +kernel)) ggL_law__L_ballast
set_option maxRecDepth 20000 in
theorem ggL_law__X12_ballast : GoodIn wsL_law_ wsX12_ballast := goodIn_r _ [1309, 167, 654, 655, 656, 5, 657, 479, 480, 481, 482, 144, 658, 659, 660, 561, 562, 563, 564, 1310, 1311, 1312, 1313, 1314, 1315, 1316, 1317, 673, 674, 675, 676, 677, 678, 679, 680, 513, 514, 515, 516, 681, 682, 683, 684, 521, 522, 523, 685, 686, 687, 688, 689, 690, 691, 692, 693, 694, 695, 494, 495, 496, 696, 697, 698, 699, 700, 422, 423, 424, 701, 426, 427, 1592, 1593, 1594, 1595, 1596, 1597, 1598, 1599, 1600, 1601, 1602, 1603, 1604, 1605, 1606, 1607, 1608, 1609, 1610, 1611] (by decide +kernel) (by decide +kernel)
set_option maxRecDepth 20000 in
theorem gL_law__X12_ballast : GoodIn wsL_law_ (wsV RL 218 RX12 yX12_ballast wsX12_ballast) := goodIn_app (goodIn_of _ (by decide +kernel)) ggL_law__X12_ballast
set_option maxRecDepth 20000 in
theorem ggL_law__X11_thief : GoodIn wsL_law_ wsX11_thief := goodIn_r _ [1321, 25, 29, 1322, 952, 953, 24, 954, 412, 332, 333, 334, 274, 955, 761, 762, 763, 632, 633, 634, 28, 635, 90, 93, 91, 92, 636, 637, 638, 639, 94, 96, 640, 641, 642, 643, 644, 645, 646, 647, 648, 649, 85, 84, 80, 75, 279, 764, 765, 766, 767, 275, 83, 82, 1572, 1573, 1574, 1575, 1576, 1577, 1578, 1579, 1580, 1581, 1582, 1583, 1584, 1585, 1586, 1587, 1588, 1589, 1590, 1591, 1616, 1617, 1618, 1619, 1620, 1621, 1622, 1623, 1624, 1625, 1626, 1627, 1628, 1629, 1630, 1631, 1632, 1633, 1634, 1635, 1636, 1637, 1638, 1639, 1640, 1641, 1642] (by decide +kernel) (by decide +kernel)
set_option maxRecDepth 20000 in
theorem gL_law__X11_thief : GoodIn wsL_law_ (wsV RL 219 RX11 yX11_thief wsX11_thief) := goodIn_app (goodIn_of _ (by decide +kernel)) ggL_law__X11_thief
set_option maxRecDepth 20000 in
theorem ggL_law__X12_thief : GoodIn wsL_law_ wsX12_thief := goodIn_r _ [1326, 167, 1002, 1003, 1004, 5, 1005, 701, 426, 423, 427, 501, 502, 503, 504, 479, 480, 481, 482, 144, 689, 690, 691, 788, 789, 790, 791, 677, 678, 679, 680, 513, 514, 515, 516, 681, 682, 683, 684, 521, 522, 523, 792, 793, 794, 795, 714, 715, 716, 717, 718, 719, 720, 721, 152, 722, 723, 724, 725, 726, 727, 728, 729, 730, 731, 732, 706, 707, 708, 709, 669, 670, 671, 672, 491, 492, 493, 661, 662, 663, 664, 665, 666, 667, 668, 673, 674, 675, 676, 685, 686, 687, 688, 692, 693, 694, 695, 494, 495, 496, 696, 697, 698, 699, 700, 422, 424, 733, 734, 735, 702, 703, 704, 705, 1592, 1593, 1594, 1595, 1596, 1597, 1598, 1599, 1600, 1601, 1602, 1603, 1604, 1605, 1606, 1607, 1608, 1609, 1610, 1611] (by decide +kernel) (by decide +kernel)
set_option maxRecDepth 20000 in
theorem gL_law__X12_thief : GoodIn wsL_law_ (wsV RL 222 RX12 yX12_thief wsX12_thief) := goodIn_app (goodIn_of _ (by decide +kernel)) ggL_law__X12_thief
set_option maxRecDepth 20000 in
theorem ggL_law__L_guards : GoodIn wsL_law_ wsL_guards := goodIn_ca (goodIn_r _ [1329, 181, 1330, 1331, 1332, 2, 1333, 25, 879, 880, 881, 187, 188, 751, 332, 333, 24, 334, 274, 1173, 983, 984, 985, 986, 987, 988, 1334, 1335, 1336, 1337, 34, 29, 816, 270, 271, 272, 273, 275, 276, 71, 277, 278, 72, 279, 73, 77, 78, 74, 280, 281, 282, 283, 75, 79, 80, 81, 82, 83, 84, 85, 1338, 1339, 1340, 1341, 951, 952, 953, 954, 412, 955, 761, 762, 763, 632, 633, 634, 28, 635, 90, 93, 91, 92, 636, 637, 638, 639, 94, 96, 640, 641, 642, 643, 644, 645, 646, 647, 648, 649, 764, 765, 766, 767, 956, 957, 958, 959, 945, 409, 410, 411, 413, 414, 415, 416, 417, 418, 419, 420, 421, 422, 423, 424, 425, 426, 427, 1572, 1573, 1574, 1575, 1576, 1577, 1578, 1579, 1580, 1581, 1582, 1583, 1584, 1585, 1586, 1587, 1588, 1589, 1590, 1591, 1616, 1617, 1618, 1619, 1620, 1621, 1622, 1623, 1624, 1625, 1626, 1627, 1628, 1629, 1630, 1631, 1632, 1633, 1634, 1635, 1636, 1637, 1638, 1639, 1640, 1641, 1642] (by decide +kernel) (by decide +kernel)) (goodIn_sub (fun _ h => List.mem_append_left _ (List.mem_append_left _ (List.mem_append_left _ (List.mem_append_left _ (List.mem_append_right _ h))))) (by decide +kernel))
set_option maxRecDepth 20000 in
theorem gL_law__L_guards : GoodIn wsL_law_ (va_wsS RL 223 yL_guards wsL_guards) := goodIn_app (goodIn_of _ (by decide +kernel)) ggL_law__L_guards
set_option maxRecDepth 20000 in
theorem ggL_law__X12_guards : GoodIn wsL_law_ wsX12_guards := goodIn_r _ [1345, 167, 658, 659, 5, 660, 561, 562, 563, 564, 501, 502, 503, 504, 479, 480, 481, 482, 144, 982, 983, 984, 985, 986, 987, 988, 1346, 1347, 1348, 1349, 701, 426, 423, 427, 1138, 1139, 1140, 1141, 147, 1006, 1007, 1008, 1009, 1002, 1003, 1004, 1005, 689, 690, 691, 788, 789, 790, 791, 677, 678, 679, 680, 513, 514, 515, 516, 681, 682, 683, 684, 521, 522, 523, 792, 793, 794, 795, 714, 715, 716, 717, 718, 719, 720, 721, 152, 722, 723, 724, 725, 726, 727, 728, 729, 730, 731, 732, 706, 707, 708, 709, 669, 670, 671, 672, 491, 492, 493, 661, 662, 663, 664, 665, 666, 667, 668, 673, 674, 675, 676, 685, 686, 687, 688, 692, 693, 694, 695, 494, 495, 496, 696, 697, 698, 699, 700, 422, 424, 733, 734, 735, 702, 703, 704, 705, 1010, 1011, 1012, 1013, 1142, 1143, 1144, 1145, 1592, 1593, 1594, 1595, 1596, 1597, 1598, 1599, 1600, 1601, 1602, 1603, 1604, 1605, 1606, 1607, 1608, 1609, 1610, 1611] (by decide +kernel) (by decide +kernel)
set_option maxRecDepth 20000 in
theorem gL_law__X12_guards : GoodIn wsL_law_ (wsV RL 225 RX12 yX12_guards wsX12_guards) := goodIn_app (goodIn_of _ (by decide +kernel)) ggL_law__X12_guards
set_option maxRecDepth 20000 in
theorem ggL_law__L_loot : GoodIn wsL_law_ wsL_loot := goodIn_ca (goodIn_r _ [1352, 181, 1353, 1354, 1355, 2, 1356, 34, 25, 29, 816, 879, 880, 881, 187, 188, 270, 271, 272, 24, 273, 274, 275, 276, 71, 277, 278, 72, 279, 73, 77, 78, 74, 280, 281, 282, 283, 75, 79, 80, 81, 82, 83, 84, 85, 1338, 1339, 1340, 1341, 951, 952, 953, 954, 412, 332, 333, 334, 955, 761, 762, 763, 632, 633, 634, 28, 635, 90, 93, 91, 92, 636, 637, 638, 639, 94, 96, 640, 641, 642, 643, 644, 645, 646, 647, 648, 649, 764, 765, 766, 767, 956, 957, 958, 959, 945, 409, 410, 411, 413, 414, 415, 416, 417, 418, 419, 420, 421, 422, 423, 424, 425, 426, 427, 1572, 1573, 1574, 1575, 1576, 1577, 1578, 1579, 1580, 1581, 1582, 1583, 1584, 1585, 1586, 1587, 1588, 1589, 1590, 1591, 1616, 1617, 1618, 1619, 1620, 1621, 1622, 1623, 1624, 1625, 1626, 1627, 1628, 1629, 1630, 1631, 1632, 1633, 1634, 1635, 1636, 1637, 1638, 1639, 1640, 1641, 1642] (by decide +kernel) (by decide +kernel)) (goodIn_sub (fun _ h => List.mem_append_left _ (List.mem_append_left _ (List.mem_append_left _ (List.mem_append_left _ (List.mem_append_right _ h))))) (by decide +kernel))
set_option maxRecDepth 20000 in
theorem gL_law__L_loot : GoodIn wsL_law_ (va_wsS RL 226 yL_loot wsL_loot) := goodIn_app (goodIn_of _ (by decide +kernel)) ggL_law__L_loot
set_option maxRecDepth 20000 in
theorem ggL_law__X12_loot : GoodIn wsL_law_ wsX12_loot := goodIn_r _ [1360, 167, 658, 659, 5, 660, 561, 562, 563, 564, 1138, 1139, 1140, 1141, 147, 144, 1006, 1007, 1008, 1009, 1002, 1003, 1004, 1005, 701, 426, 423, 427, 501, 502, 503, 504, 479, 480, 481, 482, 689, 690, 691, 788, 789, 790, 791, 677, 678, 679, 680, 513, 514, 515, 516, 681, 682, 683, 684, 521, 522, 523, 792, 793, 794, 795, 714, 715, 716, 717, 718, 719, 720, 721, 152, 722, 723, 724, 725, 726, 727, 728, 729, 730, 731, 732, 706, 707, 708, 709, 669, 670, 671, 672, 491, 492, 493, 661, 662, 663, 664, 665, 666, 667, 668, 673, 674, 675, 676, 685, 686, 687, 688, 692, 693, 694, 695, 494, 495, 496, 696, 697, 698, 699, 700, 422, 424, 733, 734, 735, 702, 703, 704, 705, 1010, 1011, 1012, 1013, 1142, 1143, 1144, 1145, 1592, 1593, 1594, 1595, 1596, 1597, 1598, 1599, 1600, 1601, 1602, 1603, 1604, 1605, 1606, 1607, 1608, 1609, 1610, 1611] (by decide +kernel) (by decide +kernel)
set_option maxRecDepth 20000 in
theorem gL_law__X12_loot : GoodIn wsL_law_ (wsV RL 228 RX12 yX12_loot wsX12_loot) := goodIn_app (goodIn_of _ (by decide +kernel)) ggL_law__X12_loot
set_option maxRecDepth 20000 in
theorem ggL_law__L_rent : GoodIn wsL_law_ wsL_rent := goodIn_ca (goodIn_ca (goodIn_r _ [1363, 604, 181, 1364, 1365, 1366, 2, 1367, 25, 743, 34, 747, 748, 749, 750, 620, 621, 751, 332, 333, 24, 334, 274, 879, 880, 881, 187, 188, 1368, 1369, 1370, 1371, 29, 270, 271, 272, 273, 275, 276, 71, 277, 278, 72, 279, 73, 77, 78, 74, 280, 281, 282, 283, 75, 79, 80, 81, 82, 83, 84, 85, 1372, 1373, 1374, 1375, 946, 947, 948, 949, 425, 426, 423, 427, 950, 757, 758, 759, 632, 633, 634, 28, 635, 90, 93, 91, 92, 636, 637, 638, 639, 94, 96, 640, 641, 642, 643, 644, 645, 646, 647, 648, 649, 961, 962, 963, 964, 421, 422, 424, 965, 629, 630, 631, 966, 967, 968, 969, 1129, 971, 972, 973, 945, 409, 410, 411, 412, 413, 414, 415, 416, 417, 418, 419, 420, 1572, 1573, 1574, 1575, 1576, 1577, 1578, 1579, 1580, 1581, 1582, 1583, 1584, 1585, 1586, 1587, 1588, 1589, 1590, 1591, 1616, 1617, 1618, 1619, 1620, 1621, 1622, 1623, 1624, 1625, 1626, 1627, 1628, 1629, 1630, 1631, 1632, 1633, 1634, 1635, 1636, 1637, 1638, 1639, 1640, 1641, 1642] (by decide +kernel) (by decide +kernel)) (goodIn_sub (fun _ h => List.mem_append_left _ (List.mem_append_right _ h)) (by decide +kernel))) (goodIn_sub (fun _ h => List.mem_append_left _ (List.mem_append_left _ (List.mem_append_left _ (List.mem_append_left _ (List.mem_append_right _ h))))) (by decide +kernel))
set_option maxRecDepth 20000 in
theorem gL_law__L_rent : GoodIn wsL_law_ (va_wsS RL 229 yL_rent wsL_rent) := goodIn_app (goodIn_of _ (by decide +kernel)) ggL_law__L_rent
set_option maxRecDepth 20000 in
theorem ggL_law__X12_rent : GoodIn wsL_law_ wsX12_rent := goodIn_r _ [1379, 167, 780, 781, 782, 5, 783, 501, 502, 503, 504, 479, 480, 481, 482, 144, 658, 659, 660, 561, 562, 563, 564, 692, 693, 694, 695, 494, 495, 496, 1380, 1381, 1382, 1383, 1138, 1139, 1140, 1141, 147, 989, 990, 991, 992, 701, 426, 423, 427, 700, 422, 424, 993, 994, 995, 996, 997, 998, 999, 1000, 1001, 1002, 1003, 1004, 1005, 689, 690, 691, 788, 789, 790, 791, 677, 678, 679, 680, 513, 514, 515, 516, 681, 682, 683, 684, 521, 522, 523, 792, 793, 794, 795, 714, 715, 716, 717, 718, 719, 720, 721, 152, 722, 723, 724, 725, 726, 727, 728, 729, 730, 731, 732, 706, 707, 708, 709, 669, 670, 671, 672, 491, 492, 493, 661, 662, 663, 664, 665, 666, 667, 668, 673, 674, 675, 676, 685, 686, 687, 688, 696, 697, 698, 699, 733, 734, 735, 702, 703, 704, 705, 1006, 1007, 1008, 1009, 1010, 1011, 1012, 1013, 868, 869, 870, 871, 784, 785, 786, 787, 1014, 1015, 1016, 1017, 710, 711, 712, 713, 1142, 1143, 1144, 1145, 1592, 1593, 1594, 1595, 1596, 1597, 1598, 1599, 1600, 1601, 1602, 1603, 1604, 1605, 1606, 1607, 1608, 1609, 1610, 1611] (by decide +kernel) (by decide +kernel)
set_option maxRecDepth 20000 in
theorem gL_law__X12_rent : GoodIn wsL_law_ (wsV RL 231 RX12 yX12_rent wsX12_rent) := goodIn_app (goodIn_of _ (by decide +kernel)) ggL_law__X12_rent
set_option maxRecDepth 20000 in
theorem ggL_law__X11_poor : GoodIn wsL_law_ wsX11_poor := goodIn_r _ [1387, 34, 25, 622, 29, 270, 271, 272, 24, 273, 274, 275, 276, 71, 277, 278, 72, 279, 73, 77, 78, 74, 280, 281, 282, 283, 75, 79, 80, 81, 82, 83, 84, 85, 1388, 1389, 1390, 1391, 412, 332, 333, 334, 1372, 1373, 1374, 1375, 946, 947, 948, 949, 425, 426, 423, 427, 950, 757, 758, 759, 632, 633, 634, 28, 635, 90, 93, 91, 92, 636, 637, 638, 639, 94, 96, 640, 641, 642, 643, 644, 645, 646, 647, 648, 649, 961, 962, 963, 964, 421, 422, 424, 965, 629, 630, 631, 966, 967, 968, 969, 1129, 971, 972, 973, 945, 409, 410, 411, 413, 414, 415, 416, 417, 418, 419, 420, 1572, 1573, 1574, 1575, 1576, 1577, 1578, 1579, 1580, 1581, 1582, 1583, 1584, 1585, 1586, 1587, 1588, 1589, 1590, 1591, 1616, 1617, 1618, 1619, 1620, 1621, 1622, 1623, 1624, 1625, 1626, 1627, 1628, 1629, 1630, 1631, 1632, 1633, 1634, 1635, 1636, 1637, 1638, 1639, 1640, 1641, 1642] (by decide +kernel) (by decide +kernel)
set_option maxRecDepth 20000 in
theorem gL_law__X11_poor : GoodIn wsL_law_ (wsV RL 232 RX11 yX11_poor wsX11_poor) := goodIn_app (goodIn_of _ (by decide +kernel)) ggL_law__X11_poor
set_option maxRecDepth 20000 in
theorem ggL_law__X12_poor : GoodIn wsL_law_ wsX12_poor := goodIn_r _ [1395, 167, 1138, 1139, 1140, 5, 1141, 147, 144, 1396, 1397, 1398, 1399, 501, 502, 503, 504, 479, 480, 481, 482, 692, 693, 694, 695, 494, 495, 496, 989, 990, 991, 992, 701, 426, 423, 427, 700, 422, 424, 993, 994, 995, 996, 997, 998, 999, 1000, 1001, 1002, 1003, 1004, 1005, 689, 690, 691, 788, 789, 790, 791, 677, 678, 679, 680, 513, 514, 515, 516, 681, 682, 683, 684, 521, 522, 523, 792, 793, 794, 795, 714, 715, 716, 717, 718, 719, 720, 721, 152, 722, 723, 724, 725, 726, 727, 728, 729, 730, 731, 732, 706, 707, 708, 709, 669, 670, 671, 672, 491, 492, 493, 661, 662, 663, 664, 665, 666, 667, 668, 673, 674, 675, 676, 685, 686, 687, 688, 696, 697, 698, 699, 733, 734, 735, 702, 703, 704, 705, 1006, 1007, 1008, 1009, 1010, 1011, 1012, 1013, 868, 869, 870, 871, 784, 785, 786, 787, 1014, 1015, 1016, 1017, 710, 711, 712, 713, 1142, 1143, 1144, 1145, 1592, 1593, 1594, 1595, 1596, 1597, 1598, 1599, 1600, 1601, 1602, 1603, 1604, 1605, 1606, 1607, 1608, 1609, 1610, 1611] (by decide +kernel) (by decide +kernel)
set_option maxRecDepth 20000 in
theorem gL_law__X12_poor : GoodIn wsL_law_ (wsV RL 235 RX12 yX12_poor wsX12_poor) := goodIn_app (goodIn_of _ (by decide +kernel)) ggL_law__X12_poor
set_option maxRecDepth 20000 in
theorem ggL_law__X11_rich : GoodIn wsL_law_ wsX11_rich := goodIn_r _ [1403, 25, 743, 751, 332, 333, 24, 334, 274, 1404, 765, 766, 767, 275, 83, 82, 1572, 1573, 1574, 1575, 1576, 1577, 1578, 1579, 1580, 1581, 1582, 1583, 1584, 1585, 1586, 1587, 1588, 1589, 1590, 1591, 1616, 1617, 1618, 1619, 1620, 1621, 1622, 1623, 1624, 1625, 1626, 1627, 1628, 1629, 1630, 1631, 1632, 1633, 1634, 1635] (by decide +kernel) (by decide +kernel)
set_option maxRecDepth 20000 in
theorem gL_law__X11_rich : GoodIn wsL_law_ (wsV RL 236 RX11 yX11_rich wsX11_rich) := goodIn_app (goodIn_of _ (by decide +kernel)) ggL_law__X11_rich
set_option maxRecDepth 20000 in
theorem ggL_law__X12_rich : GoodIn wsL_law_ wsX12_rich := goodIn_r _ [1408, 167, 701, 426, 423, 427, 501, 502, 503, 5, 504, 479, 480, 481, 482, 144, 692, 693, 694, 695, 494, 495, 496, 677, 678, 679, 680, 513, 514, 515, 516, 681, 682, 683, 684, 521, 522, 523, 792, 793, 794, 795, 689, 690, 691, 1592, 1593, 1594, 1595, 1596, 1597, 1598, 1599, 1600, 1601, 1602, 1603, 1604, 1605, 1606, 1607, 1608, 1609, 1610, 1611] (by decide +kernel) (by decide +kernel)
set_option maxRecDepth 20000 in
theorem gL_law__X12_rich : GoodIn wsL_law_ (wsV RL 239 RX12 yX12_rich wsX12_rich) := goodIn_app (goodIn_of _ (by decide +kernel)) ggL_law__X12_rich
set_option maxRecDepth 20000 in
theorem ggL_law__X11_heaviest : GoodIn wsL_law_ wsX11_heaviest := goodIn_r _ [1412, 25, 822, 817, 815, 1572, 1573, 1574, 1575, 1576, 1577, 1578, 1579, 1580, 1581, 1582, 1583, 1584, 1585, 1586, 1587, 1588, 1589, 1590, 1591, 1616, 1617, 1618, 1619, 1620, 1621, 1622, 1623, 1624, 1625, 1626, 1627, 1628, 1629, 1630, 1631, 1632, 1633, 1634, 1635] (by decide +kernel) (by decide +kernel)
set_option maxRecDepth 20000 in
theorem gL_law__X11_heaviest : GoodIn wsL_law_ (wsV RL 240 RX11 yX11_heaviest wsX11_heaviest) := goodIn_app (goodIn_of _ (by decide +kernel)) ggL_law__X11_heaviest
set_option maxRecDepth 20000 in
theorem ggL_law__X12_heaviest : GoodIn wsL_law_ wsX12_heaviest := goodIn_r _ [1416, 167, 513, 514, 515, 5, 516, 144, 860, 861, 862, 863, 681, 682, 683, 684, 521, 522, 523, 1592, 1593, 1594, 1595, 1596, 1597, 1598, 1599, 1600, 1601, 1602, 1603, 1604, 1605, 1606, 1607, 1608, 1609, 1610, 1611] (by decide +kernel) (by decide +kernel)
set_option maxRecDepth 20000 in
theorem gL_law__X12_heaviest : GoodIn wsL_law_ (wsV RL 243 RX12 yX12_heaviest wsX12_heaviest) := goodIn_app (goodIn_of _ (by decide +kernel)) ggL_law__X12_heaviest
set_option maxRecDepth 20000 in
theorem ggL_law__X11_alike : GoodIn wsL_law_ wsX11_alike := goodIn_r _ [1420, 25, 745, 746, 751, 332, 333, 24, 334, 274, 1572, 1573, 1574, 1575, 1576, 1577, 1578, 1579, 1580, 1581, 1582, 1583, 1584, 1585, 1586, 1587, 1588, 1589, 1590, 1591, 1616, 1617, 1618, 1619, 1620, 1621, 1622, 1623, 1624, 1625, 1626, 1627, 1628, 1629, 1630, 1631, 1632, 1633, 1634, 1635] (by decide +kernel) (by decide +kernel)
set_option maxRecDepth 20000 in
theorem gL_law__X11_alike : GoodIn wsL_law_ (wsV RL 244 RX11 yX11_alike wsX11_alike) := goodIn_app (goodIn_of _ (by decide +kernel)) ggL_law__X11_alike
set_option maxRecDepth 20000 in
theorem ggL_law__X12_alike : GoodIn wsL_law_ wsX12_alike := goodIn_r _ [1424, 167, 501, 502, 503, 5, 504, 479, 480, 481, 482, 144, 673, 674, 675, 676, 677, 678, 679, 680, 513, 514, 515, 516, 681, 682, 683, 684, 521, 522, 523, 685, 686, 687, 688, 689, 690, 691, 692, 693, 694, 695, 494, 495, 496, 726, 727, 728, 729, 730, 731, 732, 706, 707, 708, 709, 669, 670, 671, 672, 491, 492, 493, 661, 662, 663, 664, 665, 666, 667, 668, 696, 697, 698, 699, 700, 422, 423, 424, 701, 426, 427, 733, 734, 735, 1592, 1593, 1594, 1595, 1596, 1597, 1598, 1599, 1600, 1601, 1602, 1603, 1604, 1605, 1606, 1607, 1608, 1609, 1610, 1611] (by decide +kernel) (by decide +kernel)
set_option maxRecDepth 20000 in
theorem gL_law__X12_alike : GoodIn wsL_law_ (wsV RL 247 RX12 yX12_alike wsX12_alike) := goodIn_app (goodIn_of _ (by decide +kernel)) ggL_law__X12_alike
set_option maxRecDepth 20000 in
theorem ggL_law__L_ahead : GoodIn wsL_law_ wsL_ahead := goodIn_ca (goodIn_ca (goodIn_r _ [1427, 604, 181, 1428, 1429, 1430, 2, 1431, 34, 743, 746, 747, 748, 749, 750, 620, 621, 25, 751, 332, 333, 24, 334, 274, 879, 880, 881, 187, 188, 1368, 1369, 1370, 1371, 29, 270, 271, 272, 273, 275, 276, 71, 277, 278, 72, 279, 73, 77, 78, 74, 280, 281, 282, 283, 75, 79, 80, 81, 82, 83, 84, 85, 1372, 1373, 1374, 1375, 946, 947, 948, 949, 425, 426, 423, 427, 950, 757, 758, 759, 632, 633, 634, 28, 635, 90, 93, 91, 92, 636, 637, 638, 639, 94, 96, 640, 641, 642, 643, 644, 645, 646, 647, 648, 649, 961, 962, 963, 964, 421, 422, 424, 965, 629, 630, 631, 966, 967, 968, 969, 1129, 971, 972, 973, 945, 409, 410, 411, 412, 413, 414, 415, 416, 417, 418, 419, 420, 1572, 1573, 1574, 1575, 1576, 1577, 1578, 1579, 1580, 1581, 1582, 1583, 1584, 1585, 1586, 1587, 1588, 1589, 1590, 1591, 1616, 1617, 1618, 1619, 1620, 1621, 1622, 1623, 1624, 1625, 1626, 1627, 1628, 1629, 1630, 1631, 1632, 1633, 1634, 1635, 1636, 1637, 1638, 1639, 1640, 1641, 1642] (by decide +kernel) (by decide +kernel)) (goodIn_sub (fun _ h => List.mem_append_left _ (List.mem_append_right _ h)) (by decide +kernel))) (goodIn_sub (fun _ h => List.mem_append_left _ (List.mem_append_left _ (List.mem_append_left _ (List.mem_append_left _ (List.mem_append_right _ h))))) (by decide +kernel))
set_option maxRecDepth 20000 in
theorem gL_law__L_ahead : GoodIn wsL_law_ (va_wsS RL 248 yL_ahead wsL_ahead) := goodIn_app (goodIn_of _ (by decide +kernel)) ggL_law__L_ahead
set_option maxRecDepth 20000 in
theorem ggL_law__X12_ahead : GoodIn wsL_law_ wsX12_ahead := goodIn_r _ [1435, 167, 780, 781, 782, 5, 783, 501, 502, 503, 504, 479, 480, 481, 482, 144, 658, 659, 660, 561, 562, 563, 564, 1380, 1381, 1382, 1383, 1138, 1139, 1140, 1141, 147, 989, 990, 991, 992, 701, 426, 423, 427, 700, 422, 424, 993, 994, 995, 996, 997, 998, 999, 1000, 1001, 1002, 1003, 1004, 1005, 689, 690, 691, 788, 789, 790, 791, 677, 678, 679, 680, 513, 514, 515, 516, 681, 682, 683, 684, 521, 522, 523, 792, 793, 794, 795, 714, 715, 716, 717, 718, 719, 720, 721, 152, 722, 723, 724, 725, 726, 727, 728, 729, 730, 731, 732, 706, 707, 708, 709, 669, 670, 671, 672, 491, 492, 493, 661, 662, 663, 664, 665, 666, 667, 668, 673, 674, 675, 676, 685, 686, 687, 688, 692, 693, 694, 695, 494, 495, 496, 696, 697, 698, 699, 733, 734, 735, 702, 703, 704, 705, 1006, 1007, 1008, 1009, 1010, 1011, 1012, 1013, 868, 869, 870, 871, 784, 785, 786, 787, 1014, 1015, 1016, 1017, 710, 711, 712, 713, 1142, 1143, 1144, 1145, 1592, 1593, 1594, 1595, 1596, 1597, 1598, 1599, 1600, 1601, 1602, 1603, 1604, 1605, 1606, 1607, 1608, 1609, 1610, 1611] (by decide +kernel) (by decide +kernel)
set_option maxRecDepth 20000 in
theorem gL_law__X12_ahead : GoodIn wsL_law_ (wsV RL 250 RX12 yX12_ahead wsX12_ahead) := goodIn_app (goodIn_of _ (by decide +kernel)) ggL_law__X12_ahead
set_option maxRecDepth 20000 in
theorem ggL_law__L_trial : GoodIn wsL_law_ wsL_trial := goodIn_ca (goodIn_r _ [1438, 181, 1439, 1440, 1441, 2, 1442, 25, 1443, 34, 879, 880, 881, 187, 188, 1444, 1445, 1446, 1447, 29, 36, 270, 271, 272, 24, 273, 274, 275, 276, 71, 277, 278, 72, 279, 73, 77, 78, 74, 280, 281, 282, 283, 75, 79, 80, 81, 82, 83, 84, 85, 936, 937, 938, 939, 421, 422, 423, 424, 940, 941, 942, 943, 944, 945, 409, 410, 411, 412, 332, 333, 334, 413, 414, 415, 416, 417, 418, 419, 420, 425, 426, 427, 946, 947, 948, 949, 950, 757, 758, 759, 632, 633, 634, 28, 635, 90, 93, 91, 92, 636, 637, 638, 639, 94, 96, 640, 641, 642, 643, 644, 645, 646, 647, 648, 649, 951, 952, 953, 954, 955, 761, 762, 763, 764, 765, 766, 767, 956, 957, 958, 959, 960, 853, 854, 32, 855, 101, 102, 851, 961, 962, 963, 964, 965, 629, 630, 631, 966, 967, 968, 969, 970, 971, 972, 973, 1448, 1449, 1450, 1451, 1452, 1236, 1237, 1238, 1239, 753, 754, 755, 1173, 983, 984, 985, 986, 987, 988, 1572, 1573, 1574, 1575, 1576, 1577, 1578, 1579, 1580, 1581, 1582, 1583, 1584, 1585, 1586, 1587, 1588, 1589, 1590, 1591, 1616, 1617, 1618, 1619, 1620, 1621, 1622, 1623, 1624, 1625, 1626, 1627, 1628, 1629, 1630, 1631, 1632, 1633, 1634, 1635, 1636, 1637, 1638, 1639, 1640, 1641, 1642, 1643, 1644] (by decide +kernel) (by decide +kernel)) (goodIn_sub (fun _ h => List.mem_append_left _ (List.mem_append_left _ (List.mem_append_left _ (List.mem_append_left _ (List.mem_append_right _ h))))) (by decide +kernel))
set_option maxRecDepth 20000 in
theorem gL_law__L_trial : GoodIn wsL_law_ (va_wsS RL 251 yL_trial wsL_trial) := goodIn_app (goodIn_of _ (by decide +kernel)) ggL_law__L_trial
set_option maxRecDepth 20000 in
theorem ggL_law__X12_trial : GoodIn wsL_law_ wsX12_trial := goodIn_r _ [1456, 167, 658, 659, 5, 660, 561, 562, 563, 564, 1138, 1139, 1140, 1141, 147, 144, 989, 990, 991, 992, 701, 426, 423, 427, 700, 422, 424, 993, 994, 995, 996, 997, 998, 999, 1000, 1001, 1002, 1003, 1004, 1005, 501, 502, 503, 504, 479, 480, 481, 482, 689, 690, 691, 788, 789, 790, 791, 677, 678, 679, 680, 513, 514, 515, 516, 681, 682, 683, 684, 521, 522, 523, 792, 793, 794, 795, 714, 715, 716, 717, 718, 719, 720, 721, 152, 722, 723, 724, 725, 726, 727, 728, 729, 730, 731, 732, 706, 707, 708, 709, 669, 670, 671, 672, 491, 492, 493, 661, 662, 663, 664, 665, 666, 667, 668, 673, 674, 675, 676, 685, 686, 687, 688, 692, 693, 694, 695, 494, 495, 496, 696, 697, 698, 699, 733, 734, 735, 702, 703, 704, 705, 1006, 1007, 1008, 1009, 1010, 1011, 1012, 1013, 868, 869, 870, 871, 784, 785, 786, 787, 1014, 1015, 1016, 1017, 710, 711, 712, 713, 1457, 1458, 1459, 1460, 978, 979, 980, 981, 860, 861, 862, 863, 982, 983, 984, 985, 986, 987, 988, 1142, 1143, 1144, 1145, 1592, 1593, 1594, 1595, 1596, 1597, 1598, 1599, 1600, 1601, 1602, 1603, 1604, 1605, 1606, 1607, 1608, 1609, 1610, 1611] (by decide +kernel) (by decide +kernel)
set_option maxRecDepth 20000 in
theorem gL_law__X12_trial : GoodIn wsL_law_ (wsV RL 253 RX12 yX12_trial wsX12_trial) := goodIn_app (goodIn_of _ (by decide +kernel)) ggL_law__X12_trial
set_option maxRecDepth 20000 in
theorem ggL_law__L_span : GoodIn wsL_law_ wsL_span := goodIn_ca (goodIn_r _ [1463, 181, 1464, 1465, 1466, 2, 1467, 34, 915, 422, 423, 424, 1468, 426, 427, 879, 880, 881, 187, 188, 1444, 1445, 1446, 1447, 25, 1443, 29, 36, 270, 271, 272, 24, 273, 274, 275, 276, 71, 277, 278, 72, 279, 73, 77, 78, 74, 280, 281, 282, 283, 75, 79, 80, 81, 82, 83, 84, 85, 936, 937, 938, 939, 421, 940, 941, 942, 943, 944, 945, 409, 410, 411, 412, 332, 333, 334, 413, 414, 415, 416, 417, 418, 419, 420, 425, 946, 947, 948, 949, 950, 757, 758, 759, 632, 633, 634, 28, 635, 90, 93, 91, 92, 636, 637, 638, 639, 94, 96, 640, 641, 642, 643, 644, 645, 646, 647, 648, 649, 951, 952, 953, 954, 955, 761, 762, 763, 764, 765, 766, 767, 956, 957, 958, 959, 960, 853, 854, 32, 855, 101, 102, 851, 961, 962, 963, 964, 965, 629, 630, 631, 966, 967, 968, 969, 970, 971, 972, 973, 1452, 1236, 1237, 1238, 1239, 753, 754, 755, 1173, 983, 984, 985, 986, 987, 988, 1572, 1573, 1574, 1575, 1576, 1577, 1578, 1579, 1580, 1581, 1582, 1583, 1584, 1585, 1586, 1587, 1588, 1589, 1590, 1591, 1616, 1617, 1618, 1619, 1620, 1621, 1622, 1623, 1624, 1625, 1626, 1627, 1628, 1629, 1630, 1631, 1632, 1633, 1634, 1635, 1636, 1637, 1638, 1639, 1640, 1641, 1642, 1643, 1644] (by decide +kernel) (by decide +kernel)) (goodIn_sub (fun _ h => List.mem_append_left _ (List.mem_append_left _ (List.mem_append_left _ (List.mem_append_left _ (List.mem_append_right _ h))))) (by decide +kernel))
set_option maxRecDepth 20000 in
theorem gL_law__L_span : GoodIn wsL_law_ (va_wsS RL 254 yL_span wsL_span) := goodIn_app (goodIn_of _ (by decide +kernel)) ggL_law__L_span
set_option maxRecDepth 20000 in
theorem ggL_law__X12_span : GoodIn wsL_law_ wsX12_span := goodIn_r _ [1472, 167, 144, 701, 426, 423, 427, 700, 422, 424, 658, 659, 5, 660, 561, 562, 563, 564, 1138, 1139, 1140, 1141, 147, 989, 990, 991, 992, 993, 994, 995, 996, 997, 998, 999, 1000, 1001, 1002, 1003, 1004, 1005, 501, 502, 503, 504, 479, 480, 481, 482, 689, 690, 691, 788, 789, 790, 791, 677, 678, 679, 680, 513, 514, 515, 516, 681, 682, 683, 684, 521, 522, 523, 792, 793, 794, 795, 714, 715, 716, 717, 718, 719, 720, 721, 152, 722, 723, 724, 725, 726, 727, 728, 729, 730, 731, 732, 706, 707, 708, 709, 669, 670, 671, 672, 491, 492, 493, 661, 662, 663, 664, 665, 666, 667, 668, 673, 674, 675, 676, 685, 686, 687, 688, 692, 693, 694, 695, 494, 495, 496, 696, 697, 698, 699, 733, 734, 735, 702, 703, 704, 705, 1006, 1007, 1008, 1009, 1010, 1011, 1012, 1013, 868, 869, 870, 871, 784, 785, 786, 787, 1014, 1015, 1016, 1017, 710, 711, 712, 713, 978, 979, 980, 981, 860, 861, 862, 863, 982, 983, 984, 985, 986, 987, 988, 1142, 1143, 1144, 1145, 1592, 1593, 1594, 1595, 1596, 1597, 1598, 1599, 1600, 1601, 1602, 1603, 1604, 1605, 1606, 1607, 1608, 1609, 1610, 1611] (by decide +kernel) (by decide +kernel)
set_option maxRecDepth 20000 in
theorem gL_law__X12_span : GoodIn wsL_law_ (wsV RL 256 RX12 yX12_span wsX12_span) := goodIn_app (goodIn_of _ (by decide +kernel)) ggL_law__X12_span
set_option maxRecDepth 20000 in
theorem ggL_law__L_led : GoodIn wsL_law_ wsL_led := goodIn_ca (goodIn_r _ [1475, 604, 1476, 1477, 1478, 2, 1479, 33, 818, 819, 820, 821, 620, 621, 25, 822, 1480, 1481, 1482, 32, 1483, 101, 1484, 1485, 1486, 1487, 102, 1488, 1489, 1490, 1491, 1572, 1573, 1574, 1575, 1576, 1577, 1578, 1579, 1580, 1581, 1582, 1583, 1584, 1585, 1586, 1587, 1588, 1589, 1590, 1591, 1616, 1617, 1618, 1619, 1620, 1621, 1622, 1623, 1624, 1625, 1626, 1627, 1628, 1629, 1630, 1631, 1632, 1633, 1634, 1635, 1643, 1644] (by decide +kernel) (by decide +kernel)) (goodIn_sub (fun _ h => List.mem_append_left _ (List.mem_append_right _ h)) (by decide +kernel))
set_option maxRecDepth 20000 in
theorem gL_law__L_led : GoodIn wsL_law_ (va_wsS RL 257 yL_led wsL_led) := goodIn_app (goodIn_of _ (by decide +kernel)) ggL_law__L_led
set_option maxRecDepth 20000 in
theorem ggL_law__X12_led : GoodIn wsL_law_ wsX12_led := goodIn_r _ [1495, 167, 144, 827, 828, 829, 5, 830, 513, 514, 515, 516, 658, 659, 660, 561, 562, 563, 564, 1496, 1497, 1498, 1499, 1592, 1593, 1594, 1595, 1596, 1597, 1598, 1599, 1600, 1601, 1602, 1603, 1604, 1605, 1606, 1607, 1608, 1609, 1610, 1611] (by decide +kernel) (by decide +kernel)
set_option maxRecDepth 20000 in
theorem gL_law__X12_led : GoodIn wsL_law_ (wsV RL 259 RX12 yX12_led wsX12_led) := goodIn_app (goodIn_of _ (by decide +kernel)) ggL_law__X12_led
set_option maxRecDepth 20000 in
theorem ggL_law__L_log : GoodIn wsL_law_ wsL_log := goodIn_ca (goodIn_r _ [1502, 605, 1503, 1504, 1505, 2, 1506, 610, 611, 33, 1507, 1485, 1486, 32, 1487, 101, 102, 1572, 1573, 1574, 1575, 1576, 1577, 1578, 1579, 1580, 1581, 1582, 1583, 1584, 1585, 1586, 1587, 1588, 1589, 1590, 1591, 1643, 1644] (by decide +kernel) (by decide +kernel)) (goodIn_sub (fun _ h => List.mem_append_left _ (List.mem_append_left _ (List.mem_append_right _ h))) (by decide +kernel))
set_option maxRecDepth 20000 in
theorem gL_law__L_log : GoodIn wsL_law_ (va_wsS RL 260 yL_log wsL_log) := goodIn_app (goodIn_of _ (by decide +kernel)) ggL_law__L_log
set_option maxRecDepth 20000 in
theorem ggL_law__X12_log : GoodIn wsL_law_ wsX12_log := goodIn_r _ [1511, 167, 144, 658, 659, 5, 660, 561, 562, 563, 564, 1496, 1497, 1498, 1499, 1592, 1593, 1594, 1595, 1596, 1597, 1598, 1599, 1600, 1601, 1602, 1603, 1604, 1605, 1606, 1607, 1608, 1609, 1610, 1611] (by decide +kernel) (by decide +kernel)
set_option maxRecDepth 20000 in
theorem gL_law__X12_log : GoodIn wsL_law_ (wsV RL 262 RX12 yX12_log wsX12_log) := goodIn_app (goodIn_of _ (by decide +kernel)) ggL_law__X12_log
set_option maxRecDepth 20000 in
theorem ggL_law__X11_seed : GoodIn wsL_law_ wsX11_seed := goodIn_r _ [1515, 25, 1443, 1572, 1573, 1574, 1575, 1576, 1577, 1578, 1579, 1580, 1581, 1582, 1583, 1584, 1585, 1586, 1587, 1588, 1589, 1590, 1591, 1616, 1617, 1618, 1619, 1620, 1621, 1622, 1623, 1624, 1625, 1626, 1627, 1628, 1629, 1630, 1631, 1632, 1633, 1634, 1635] (by decide +kernel) (by decide +kernel)
set_option maxRecDepth 20000 in
theorem gL_law__X11_seed : GoodIn wsL_law_ (wsV RL 263 RX11 yX11_seed wsX11_seed) := goodIn_app (goodIn_of _ (by decide +kernel)) ggL_law__X11_seed
set_option maxRecDepth 20000 in
theorem ggL_law__X12_seed : GoodIn wsL_law_ wsX12_seed := goodIn_r _ [1519, 167, 144, 1592, 1593, 1594, 1595, 1596, 1597, 1598, 1599, 1600, 1601, 1602, 1603, 1604, 1605, 1606, 1607, 1608, 1609, 1610, 1611] (by decide +kernel) (by decide +kernel)
set_option maxRecDepth 20000 in
theorem gL_law__X12_seed : GoodIn wsL_law_ (wsV RL 266 RX12 yX12_seed wsX12_seed) := goodIn_app (goodIn_of _ (by decide +kernel)) ggL_law__X12_seed
set_option maxRecDepth 20000 in
theorem ggL_law__X11_undo : GoodIn wsL_law_ wsX11_undo := goodIn_r _ [1523, 52, 25, 33, 1524, 1525, 1526, 51, 1527, 132, 133, 135, 137, 846, 271, 272, 24, 273, 274, 275, 276, 71, 277, 278, 72, 279, 73, 77, 78, 74, 280, 281, 282, 283, 75, 79, 80, 81, 82, 83, 84, 85, 847, 848, 849, 32, 850, 101, 102, 851, 1572, 1573, 1574, 1575, 1576, 1577, 1578, 1579, 1580, 1581, 1582, 1583, 1584, 1585, 1586, 1587, 1588, 1589, 1590, 1591, 1657, 1658, 1659, 1660, 1616, 1617, 1618, 1619, 1620, 1621, 1622, 1623, 1624, 1625, 1626, 1627, 1628, 1629, 1630, 1631, 1632, 1633, 1634, 1635, 1643, 1644] (by decide +kernel) (by decide +kernel)
set_option maxRecDepth 20000 in
theorem gL_law__X11_undo : GoodIn wsL_law_ (wsV RL 267 RX11 yX11_undo wsX11_undo) := goodIn_app (goodIn_of _ (by decide +kernel)) ggL_law__X11_undo
set_option maxRecDepth 20000 in
theorem ggL_law__X12_undo : GoodIn wsL_law_ wsX12_undo := goodIn_r _ [1531, 167, 437, 144, 148, 1592, 1593, 1594, 1595, 1596, 1597, 1598, 1599, 1600, 1601, 1602, 1603, 1604, 1605, 1606, 1607, 1608, 1609, 1610, 1611] (by decide +kernel) (by decide +kernel)
set_option maxRecDepth 20000 in
theorem gL_law__X12_undo : GoodIn wsL_law_ (wsV RL 271 RX12 yX12_undo wsX12_undo) := goodIn_app (goodIn_of _ (by decide +kernel)) ggL_law__X12_undo
set_option maxRecDepth 20000 in
theorem ggL_law__X11_image : GoodIn wsL_law_ wsX11_image := goodIn_r _ [1535, 53, 21, 54, 55, 25, 56, 29, 57, 33, 270, 271, 272, 24, 273, 274, 275, 276, 71, 277, 278, 72, 279, 73, 77, 78, 74, 280, 281, 282, 283, 75, 79, 80, 81, 82, 83, 84, 85, 584, 585, 586, 28, 587, 90, 95, 91, 588, 92, 93, 94, 1536, 848, 849, 32, 850, 101, 102, 851, 1572, 1573, 1574, 1575, 1576, 1577, 1578, 1579, 1580, 1581, 1582, 1583, 1584, 1585, 1586, 1587, 1588, 1589, 1590, 1591, 1616, 1617, 1618, 1619, 1620, 1621, 1622, 1623, 1624, 1625, 1626, 1627, 1628, 1629, 1630, 1631, 1632, 1633, 1634, 1635, 1636, 1637, 1638, 1639, 1640, 1641, 1642, 1643, 1644] (by decide +kernel) (by decide +kernel)
set_option maxRecDepth 20000 in
theorem gL_law__X11_image : GoodIn wsL_law_ (wsV RL 272 RX11 yX11_image wsX11_image) := goodIn_app (goodIn_of _ (by decide +kernel)) ggL_law__X11_image
set_option maxRecDepth 20000 in
theorem ggL_law__X12_image : GoodIn wsL_law_ wsX12_image := goodIn_r _ [1540, 167, 145, 144, 1541, 1592, 1593, 1594, 1595, 1596, 1597, 1598, 1599, 1600, 1601, 1602, 1603, 1604, 1605, 1606, 1607, 1608, 1609, 1610, 1611] (by decide +kernel) (by decide +kernel)
set_option maxRecDepth 20000 in
theorem gL_law__X12_image : GoodIn wsL_law_ (wsV RL 275 RX12 yX12_image wsX12_image) := goodIn_app (goodIn_of _ (by decide +kernel)) ggL_law__X12_image
set_option maxRecDepth 20000 in
theorem ggL_law__X11_back : GoodIn wsL_law_ wsX11_back := goodIn_r _ [1545, 53, 54, 21, 25, 55, 29, 56, 33, 57, 52, 270, 271, 272, 24, 273, 274, 275, 276, 71, 277, 278, 72, 279, 73, 77, 78, 74, 280, 281, 282, 283, 75, 79, 80, 81, 82, 83, 84, 85, 584, 585, 586, 28, 587, 90, 95, 91, 588, 92, 93, 94, 1536, 848, 849, 32, 850, 101, 102, 851, 428, 429, 430, 51, 431, 132, 1572, 1573, 1574, 1575, 1576, 1577, 1578, 1579, 1580, 1581, 1582, 1583, 1584, 1585, 1586, 1587, 1588, 1589, 1590, 1591, 1616, 1617, 1618, 1619, 1620, 1621, 1622, 1623, 1624, 1625, 1626, 1627, 1628, 1629, 1630, 1631, 1632, 1633, 1634, 1635, 1636, 1637, 1638, 1639, 1640, 1641, 1642, 1643, 1644, 1657, 1658, 1659, 1660] (by decide +kernel) (by decide +kernel)
set_option maxRecDepth 20000 in
theorem gL_law__X11_back : GoodIn wsL_law_ (wsV RL 276 RX11 yX11_back wsX11_back) := goodIn_app (goodIn_of _ (by decide +kernel)) ggL_law__X11_back
set_option maxRecDepth 20000 in
theorem ggL_law__X12_back : GoodIn wsL_law_ wsX12_back := goodIn_r _ [1549, 167, 1541, 144, 145, 437, 1592, 1593, 1594, 1595, 1596, 1597, 1598, 1599, 1600, 1601, 1602, 1603, 1604, 1605, 1606, 1607, 1608, 1609, 1610, 1611] (by decide +kernel) (by decide +kernel)
set_option maxRecDepth 20000 in
theorem gL_law__X12_back : GoodIn wsL_law_ (wsV RL 279 RX12 yX12_back wsX12_back) := goodIn_app (goodIn_of _ (by decide +kernel)) ggL_law__X12_back
set_option maxRecDepth 20000 in
theorem ggL_law__X11_count : GoodIn wsL_law_ wsX11_count := goodIn_r _ [1553, 25, 622, 822, 21, 29, 576, 841, 924, 1554, 1555, 1556, 1557, 33, 1558, 52, 1559, 1448, 1449, 1450, 24, 1451, 274, 78, 1452, 1236, 1237, 1238, 1239, 753, 754, 755, 275, 83, 1560, 1561, 1562, 1563, 79, 412, 332, 333, 334, 1572, 1573, 1574, 1575, 1576, 1577, 1578, 1579, 1580, 1581, 1582, 1583, 1584, 1585, 1586, 1587, 1588, 1589, 1590, 1591, 1616, 1617, 1618, 1619, 1620, 1621, 1622, 1623, 1624, 1625, 1626, 1627, 1628, 1629, 1630, 1631, 1632, 1633, 1634, 1635, 1636, 1637, 1638, 1639, 1640, 1641, 1642, 1643, 1644, 1657, 1658, 1659, 1660] (by decide +kernel) (by decide +kernel)
set_option maxRecDepth 20000 in
theorem gL_law__X11_count : GoodIn wsL_law_ (wsV RL 280 RX11 yX11_count wsX11_count) := goodIn_app (goodIn_of _ (by decide +kernel)) ggL_law__X11_count
set_option maxRecDepth 20000 in
theorem ggL_law__X12_count : GoodIn wsL_law_ wsX12_count := goodIn_r _ [1567, 167, 144, 437, 1457, 1458, 1459, 5, 1460, 479, 480, 481, 482, 706, 707, 708, 709, 669, 670, 671, 672, 491, 492, 493, 978, 979, 980, 981, 513, 514, 515, 516, 860, 861, 862, 863, 681, 682, 683, 684, 521, 522, 523, 1568, 1569, 1570, 1571, 501, 502, 503, 504, 692, 693, 694, 695, 494, 495, 496, 658, 659, 660, 1592, 1593, 1594, 1595, 1596, 1597, 1598, 1599, 1600, 1601, 1602, 1603, 1604, 1605, 1606, 1607, 1608, 1609, 1610, 1611] (by decide +kernel) (by decide +kernel)
set_option maxRecDepth 20000 in
theorem gL_law__X12_count : GoodIn wsL_law_ (wsV RL 283 RX12 yX12_count wsX12_count) := goodIn_app (goodIn_of _ (by decide +kernel)) ggL_law__X12_count
theorem dL_law__0 : decode cL_law_ 0 = .ok (.new 8, 3) := by decide +kernel
theorem dL_law__3 : decode cL_law_ 3 = .ok (.dup, 1) := by decide +kernel
theorem dL_law__4 : decode cL_law_ 4 = .ok (.invokespecial 110, 3) := by decide +kernel
theorem dL_law__7 : decode cL_law_ 7 = .ok (.astore_n 1, 1) := by decide +kernel
theorem dL_law__8 : decode cL_law_ 8 = .ok (.new 111, 3) := by decide +kernel
theorem dL_law__11 : decode cL_law_ 11 = .ok (.dup, 1) := by decide +kernel
theorem dL_law__12 : decode cL_law_ 12 = .ok (.invokespecial 113, 3) := by decide +kernel
theorem dL_law__15 : decode cL_law_ 15 = .ok (.astore_n 2, 1) := by decide +kernel
theorem dL_law__16 : decode cL_law_ 16 = .ok (.iconst 1, 1) := by decide +kernel
theorem dL_law__17 : decode cL_law_ 17 = .ok (.newarray .long, 2) := by decide +kernel
theorem dL_law__19 : decode cL_law_ 19 = .ok (.astore_n 3, 1) := by decide +kernel
theorem dL_law__20 : decode cL_law_ 20 = .ok (.iconst 0, 1) := by decide +kernel
theorem dL_law__21 : decode cL_law_ 21 = .ok (.istore 4, 2) := by decide +kernel
theorem dL_law__23 : decode cL_law_ 23 = .ok (.iload 4, 2) := by decide +kernel
theorem dL_law__25 : decode cL_law_ 25 = .ok (.aload_n 0, 1) := by decide +kernel
theorem dL_law__26 : decode cL_law_ 26 = .ok (.arraylength, 1) := by decide +kernel
theorem dL_law__27 : decode cL_law_ 27 = .ok (.bipush 6, 2) := by decide +kernel
theorem dL_law__29 : decode cL_law_ 29 = .ok (.isub, 1) := by decide +kernel
theorem dL_law__30 : decode cL_law_ 30 = .ok (.if_icmp .gt 2459, 3) := by decide +kernel
theorem dL_law__33 : decode cL_law_ 33 = .ok (.aload_n 0, 1) := by decide +kernel
theorem dL_law__34 : decode cL_law_ 34 = .ok (.iload 4, 2) := by decide +kernel
theorem dL_law__36 : decode cL_law_ 36 = .ok (.iaload, 1) := by decide +kernel
theorem dL_law__37 : decode cL_law_ 37 = .ok (.bipush 63, 2) := by decide +kernel
theorem dL_law__39 : decode cL_law_ 39 = .ok (.iand, 1) := by decide +kernel
theorem dL_law__40 : decode cL_law_ 40 = .ok (.tableswitch 2443 0 45 #[200, 273, 298, 342, 386, 399, 467, 535, 603, 671, 739, 830, 886, 966, 979, 1035, 1048, 1061, 1074, 1130, 1198, 1294, 1350, 1406, 1419, 1487, 1571, 1627, 1683, 1696, 1764, 1820, 1888, 1901, 1914, 1927, 1940, 2036, 2120, 2204, 2288, 2356, 2381, 2394, 2405, 2418], 200) := by decide +kernel
theorem dL_law__240 : decode cL_law_ 240 = .ok (.aload_n 1, 1) := by decide +kernel
theorem dL_law__241 : decode cL_law_ 241 = .ok (.aload_n 0, 1) := by decide +kernel
theorem dL_law__242 : decode cL_law_ 242 = .ok (.iload 4, 2) := by decide +kernel
theorem dL_law__244 : decode cL_law_ 244 = .ok (.iconst 1, 1) := by decide +kernel
theorem dL_law__245 : decode cL_law_ 245 = .ok (.iadd, 1) := by decide +kernel
theorem dL_law__246 : decode cL_law_ 246 = .ok (.iaload, 1) := by decide +kernel
theorem dL_law__247 : decode cL_law_ 247 = .ok (.aload_n 0, 1) := by decide +kernel
theorem dL_law__248 : decode cL_law_ 248 = .ok (.iload 4, 2) := by decide +kernel
theorem dL_law__250 : decode cL_law_ 250 = .ok (.iconst 2, 1) := by decide +kernel
theorem dL_law__251 : decode cL_law_ 251 = .ok (.iadd, 1) := by decide +kernel
theorem dL_law__252 : decode cL_law_ 252 = .ok (.iaload, 1) := by decide +kernel
theorem dL_law__253 : decode cL_law_ 253 = .ok (.aload_n 0, 1) := by decide +kernel
theorem dL_law__254 : decode cL_law_ 254 = .ok (.iload 4, 2) := by decide +kernel
theorem dL_law__256 : decode cL_law_ 256 = .ok (.iconst 3, 1) := by decide +kernel
theorem dL_law__257 : decode cL_law_ 257 = .ok (.iadd, 1) := by decide +kernel
theorem dL_law__258 : decode cL_law_ 258 = .ok (.iaload, 1) := by decide +kernel
theorem dL_law__259 : decode cL_law_ 259 = .ok (.aload_n 0, 1) := by decide +kernel
theorem dL_law__260 : decode cL_law_ 260 = .ok (.iload 4, 2) := by decide +kernel
theorem dL_law__262 : decode cL_law_ 262 = .ok (.iconst 4, 1) := by decide +kernel
theorem dL_law__263 : decode cL_law_ 263 = .ok (.iadd, 1) := by decide +kernel
theorem dL_law__264 : decode cL_law_ 264 = .ok (.iaload, 1) := by decide +kernel
theorem dL_law__265 : decode cL_law_ 265 = .ok (.aload_n 0, 1) := by decide +kernel
theorem dL_law__266 : decode cL_law_ 266 = .ok (.iload 4, 2) := by decide +kernel
theorem dL_law__268 : decode cL_law_ 268 = .ok (.iconst 5, 1) := by decide +kernel
theorem dL_law__269 : decode cL_law_ 269 = .ok (.iadd, 1) := by decide +kernel
theorem dL_law__270 : decode cL_law_ 270 = .ok (.iaload, 1) := by decide +kernel
theorem dL_law__271 : decode cL_law_ 271 = .ok (.invokevirtual 114, 3) := by decide +kernel
theorem dL_law__274 : decode cL_law_ 274 = .ok (.aload_n 2, 1) := by decide +kernel
theorem dL_law__275 : decode cL_law_ 275 = .ok (.aload_n 0, 1) := by decide +kernel
theorem dL_law__276 : decode cL_law_ 276 = .ok (.iload 4, 2) := by decide +kernel
theorem dL_law__278 : decode cL_law_ 278 = .ok (.iconst 1, 1) := by decide +kernel
theorem dL_law__279 : decode cL_law_ 279 = .ok (.iadd, 1) := by decide +kernel
theorem dL_law__280 : decode cL_law_ 280 = .ok (.iaload, 1) := by decide +kernel
theorem dL_law__281 : decode cL_law_ 281 = .ok (.aload_n 0, 1) := by decide +kernel
theorem dL_law__282 : decode cL_law_ 282 = .ok (.iload 4, 2) := by decide +kernel
theorem dL_law__284 : decode cL_law_ 284 = .ok (.iconst 2, 1) := by decide +kernel
theorem dL_law__285 : decode cL_law_ 285 = .ok (.iadd, 1) := by decide +kernel
theorem dL_law__286 : decode cL_law_ 286 = .ok (.iaload, 1) := by decide +kernel
theorem dL_law__287 : decode cL_law_ 287 = .ok (.aload_n 0, 1) := by decide +kernel
theorem dL_law__288 : decode cL_law_ 288 = .ok (.iload 4, 2) := by decide +kernel
theorem dL_law__290 : decode cL_law_ 290 = .ok (.iconst 3, 1) := by decide +kernel
theorem dL_law__291 : decode cL_law_ 291 = .ok (.iadd, 1) := by decide +kernel
theorem dL_law__292 : decode cL_law_ 292 = .ok (.iaload, 1) := by decide +kernel
theorem dL_law__293 : decode cL_law_ 293 = .ok (.aload_n 0, 1) := by decide +kernel
theorem dL_law__294 : decode cL_law_ 294 = .ok (.iload 4, 2) := by decide +kernel
theorem dL_law__296 : decode cL_law_ 296 = .ok (.iconst 4, 1) := by decide +kernel
theorem dL_law__297 : decode cL_law_ 297 = .ok (.iadd, 1) := by decide +kernel
theorem dL_law__298 : decode cL_law_ 298 = .ok (.iaload, 1) := by decide +kernel
theorem dL_law__299 : decode cL_law_ 299 = .ok (.aload_n 0, 1) := by decide +kernel
theorem dL_law__300 : decode cL_law_ 300 = .ok (.iload 4, 2) := by decide +kernel
theorem dL_law__302 : decode cL_law_ 302 = .ok (.iconst 5, 1) := by decide +kernel
theorem dL_law__303 : decode cL_law_ 303 = .ok (.iadd, 1) := by decide +kernel
theorem dL_law__304 : decode cL_law_ 304 = .ok (.iaload, 1) := by decide +kernel
theorem dL_law__305 : decode cL_law_ 305 = .ok (.invokevirtual 118, 3) := by decide +kernel
theorem dL_law__308 : decode cL_law_ 308 = .ok (.if_icmp .eq 2175, 3) := by decide +kernel
theorem dL_law__311 : decode cL_law_ 311 = .ok (.iconst 0, 1) := by decide +kernel
theorem dL_law__312 : decode cL_law_ 312 = .ok (.ireturn, 1) := by decide +kernel
theorem dL_law__313 : decode cL_law_ 313 = .ok (.aload_n 1, 1) := by decide +kernel
theorem dL_law__314 : decode cL_law_ 314 = .ok (.aload_n 0, 1) := by decide +kernel
theorem dL_law__315 : decode cL_law_ 315 = .ok (.iload 4, 2) := by decide +kernel
theorem dL_law__317 : decode cL_law_ 317 = .ok (.iconst 1, 1) := by decide +kernel
theorem dL_law__318 : decode cL_law_ 318 = .ok (.iadd, 1) := by decide +kernel
theorem dL_law__319 : decode cL_law_ 319 = .ok (.iaload, 1) := by decide +kernel
theorem dL_law__320 : decode cL_law_ 320 = .ok (.invokevirtual 119, 3) := by decide +kernel
theorem dL_law__323 : decode cL_law_ 323 = .ok (.aload_n 2, 1) := by decide +kernel
theorem dL_law__324 : decode cL_law_ 324 = .ok (.aload_n 0, 1) := by decide +kernel
theorem dL_law__325 : decode cL_law_ 325 = .ok (.iload 4, 2) := by decide +kernel
theorem dL_law__327 : decode cL_law_ 327 = .ok (.iconst 1, 1) := by decide +kernel
theorem dL_law__328 : decode cL_law_ 328 = .ok (.iadd, 1) := by decide +kernel
theorem dL_law__329 : decode cL_law_ 329 = .ok (.iaload, 1) := by decide +kernel
theorem dL_law__330 : decode cL_law_ 330 = .ok (.invokevirtual 123, 3) := by decide +kernel
theorem dL_law__333 : decode cL_law_ 333 = .ok (.if_icmp .eq 2150, 3) := by decide +kernel
theorem dL_law__336 : decode cL_law_ 336 = .ok (.iconst 0, 1) := by decide +kernel
theorem dL_law__337 : decode cL_law_ 337 = .ok (.ireturn, 1) := by decide +kernel
theorem dL_law__338 : decode cL_law_ 338 = .ok (.aload_n 1, 1) := by decide +kernel
theorem dL_law__339 : decode cL_law_ 339 = .ok (.aload_n 3, 1) := by decide +kernel
theorem dL_law__340 : decode cL_law_ 340 = .ok (.invokestatic 124, 3) := by decide +kernel
theorem dL_law__343 : decode cL_law_ 343 = .ok (.istore 5, 2) := by decide +kernel
theorem dL_law__345 : decode cL_law_ 345 = .ok (.aload_n 2, 1) := by decide +kernel
theorem dL_law__346 : decode cL_law_ 346 = .ok (.invokevirtual 129, 3) := by decide +kernel
theorem dL_law__349 : decode cL_law_ 349 = .ok (.istore 6, 2) := by decide +kernel
theorem dL_law__351 : decode cL_law_ 351 = .ok (.aload_n 2, 1) := by decide +kernel
theorem dL_law__352 : decode cL_law_ 352 = .ok (.invokevirtual 130, 3) := by decide +kernel
theorem dL_law__355 : decode cL_law_ 355 = .ok (.iload 5, 2) := by decide +kernel
theorem dL_law__357 : decode cL_law_ 357 = .ok (.if_icmp .eq 5, 3) := by decide +kernel
theorem dL_law__360 : decode cL_law_ 360 = .ok (.iconst 0, 1) := by decide +kernel
theorem dL_law__361 : decode cL_law_ 361 = .ok (.ireturn, 1) := by decide +kernel
theorem dL_law__362 : decode cL_law_ 362 = .ok (.iload 5, 2) := by decide +kernel
theorem dL_law__364 : decode cL_law_ 364 = .ok (.ifCond .ne 15, 3) := by decide +kernel
theorem dL_law__367 : decode cL_law_ 367 = .ok (.aload_n 3, 1) := by decide +kernel
theorem dL_law__368 : decode cL_law_ 368 = .ok (.iconst 0, 1) := by decide +kernel
theorem dL_law__369 : decode cL_law_ 369 = .ok (.laload, 1) := by decide +kernel
theorem dL_law__370 : decode cL_law_ 370 = .ok (.iload 6, 2) := by decide +kernel
theorem dL_law__372 : decode cL_law_ 372 = .ok (.i2l, 1) := by decide +kernel
theorem dL_law__373 : decode cL_law_ 373 = .ok (.lcmp, 1) := by decide +kernel
theorem dL_law__374 : decode cL_law_ 374 = .ok (.ifCond .eq 5, 3) := by decide +kernel
theorem dL_law__377 : decode cL_law_ 377 = .ok (.iconst 0, 1) := by decide +kernel
theorem dL_law__378 : decode cL_law_ 378 = .ok (.ireturn, 1) := by decide +kernel
theorem dL_law__379 : decode cL_law_ 379 = .ok (.goto 2104, 3) := by decide +kernel
theorem dL_law__382 : decode cL_law_ 382 = .ok (.aload_n 1, 1) := by decide +kernel
theorem dL_law__383 : decode cL_law_ 383 = .ok (.aload_n 3, 1) := by decide +kernel
theorem dL_law__384 : decode cL_law_ 384 = .ok (.invokestatic 133, 3) := by decide +kernel
theorem dL_law__387 : decode cL_law_ 387 = .ok (.istore 5, 2) := by decide +kernel
theorem dL_law__389 : decode cL_law_ 389 = .ok (.aload_n 2, 1) := by decide +kernel
theorem dL_law__390 : decode cL_law_ 390 = .ok (.invokevirtual 135, 3) := by decide +kernel
theorem dL_law__393 : decode cL_law_ 393 = .ok (.istore 6, 2) := by decide +kernel
theorem dL_law__395 : decode cL_law_ 395 = .ok (.aload_n 2, 1) := by decide +kernel
theorem dL_law__396 : decode cL_law_ 396 = .ok (.invokevirtual 130, 3) := by decide +kernel
theorem dL_law__399 : decode cL_law_ 399 = .ok (.iload 5, 2) := by decide +kernel
theorem dL_law__401 : decode cL_law_ 401 = .ok (.if_icmp .eq 5, 3) := by decide +kernel
theorem dL_law__404 : decode cL_law_ 404 = .ok (.iconst 0, 1) := by decide +kernel
theorem dL_law__405 : decode cL_law_ 405 = .ok (.ireturn, 1) := by decide +kernel
theorem dL_law__406 : decode cL_law_ 406 = .ok (.iload 5, 2) := by decide +kernel
theorem dL_law__408 : decode cL_law_ 408 = .ok (.ifCond .ne 15, 3) := by decide +kernel
theorem dL_law__411 : decode cL_law_ 411 = .ok (.aload_n 3, 1) := by decide +kernel
theorem dL_law__412 : decode cL_law_ 412 = .ok (.iconst 0, 1) := by decide +kernel
theorem dL_law__413 : decode cL_law_ 413 = .ok (.laload, 1) := by decide +kernel
theorem dL_law__414 : decode cL_law_ 414 = .ok (.iload 6, 2) := by decide +kernel
theorem dL_law__416 : decode cL_law_ 416 = .ok (.i2l, 1) := by decide +kernel
theorem dL_law__417 : decode cL_law_ 417 = .ok (.lcmp, 1) := by decide +kernel
theorem dL_law__418 : decode cL_law_ 418 = .ok (.ifCond .eq 5, 3) := by decide +kernel
theorem dL_law__421 : decode cL_law_ 421 = .ok (.iconst 0, 1) := by decide +kernel
theorem dL_law__422 : decode cL_law_ 422 = .ok (.ireturn, 1) := by decide +kernel
theorem dL_law__423 : decode cL_law_ 423 = .ok (.goto 2060, 3) := by decide +kernel
theorem dL_law__426 : decode cL_law_ 426 = .ok (.aload_n 1, 1) := by decide +kernel
theorem dL_law__427 : decode cL_law_ 427 = .ok (.invokevirtual 136, 3) := by decide +kernel
theorem dL_law__430 : decode cL_law_ 430 = .ok (.aload_n 2, 1) := by decide +kernel
theorem dL_law__431 : decode cL_law_ 431 = .ok (.invokevirtual 139, 3) := by decide +kernel
theorem dL_law__434 : decode cL_law_ 434 = .ok (.if_icmp .eq 2049, 3) := by decide +kernel
theorem dL_law__437 : decode cL_law_ 437 = .ok (.iconst 0, 1) := by decide +kernel
theorem dL_law__438 : decode cL_law_ 438 = .ok (.ireturn, 1) := by decide +kernel
theorem dL_law__439 : decode cL_law_ 439 = .ok (.aload_n 1, 1) := by decide +kernel
theorem dL_law__440 : decode cL_law_ 440 = .ok (.aload_n 0, 1) := by decide +kernel
theorem dL_law__441 : decode cL_law_ 441 = .ok (.iload 4, 2) := by decide +kernel
theorem dL_law__443 : decode cL_law_ 443 = .ok (.iconst 1, 1) := by decide +kernel
theorem dL_law__444 : decode cL_law_ 444 = .ok (.iadd, 1) := by decide +kernel
theorem dL_law__445 : decode cL_law_ 445 = .ok (.iaload, 1) := by decide +kernel
theorem dL_law__446 : decode cL_law_ 446 = .ok (.aload_n 0, 1) := by decide +kernel
theorem dL_law__447 : decode cL_law_ 447 = .ok (.iload 4, 2) := by decide +kernel
theorem dL_law__449 : decode cL_law_ 449 = .ok (.iconst 2, 1) := by decide +kernel
theorem dL_law__450 : decode cL_law_ 450 = .ok (.iadd, 1) := by decide +kernel
theorem dL_law__451 : decode cL_law_ 451 = .ok (.iaload, 1) := by decide +kernel
theorem dL_law__452 : decode cL_law_ 452 = .ok (.aload_n 3, 1) := by decide +kernel
theorem dL_law__453 : decode cL_law_ 453 = .ok (.invokestatic 140, 3) := by decide +kernel
theorem dL_law__456 : decode cL_law_ 456 = .ok (.istore 5, 2) := by decide +kernel
theorem dL_law__458 : decode cL_law_ 458 = .ok (.aload_n 2, 1) := by decide +kernel
theorem dL_law__459 : decode cL_law_ 459 = .ok (.aload_n 0, 1) := by decide +kernel
theorem dL_law__460 : decode cL_law_ 460 = .ok (.iload 4, 2) := by decide +kernel
theorem dL_law__462 : decode cL_law_ 462 = .ok (.iconst 1, 1) := by decide +kernel
theorem dL_law__463 : decode cL_law_ 463 = .ok (.iadd, 1) := by decide +kernel
theorem dL_law__464 : decode cL_law_ 464 = .ok (.iaload, 1) := by decide +kernel
theorem dL_law__465 : decode cL_law_ 465 = .ok (.aload_n 0, 1) := by decide +kernel
theorem dL_law__466 : decode cL_law_ 466 = .ok (.iload 4, 2) := by decide +kernel
theorem dL_law__468 : decode cL_law_ 468 = .ok (.iconst 2, 1) := by decide +kernel
theorem dL_law__469 : decode cL_law_ 469 = .ok (.iadd, 1) := by decide +kernel
theorem dL_law__470 : decode cL_law_ 470 = .ok (.iaload, 1) := by decide +kernel
theorem dL_law__471 : decode cL_law_ 471 = .ok (.invokevirtual 143, 3) := by decide +kernel
theorem dL_law__474 : decode cL_law_ 474 = .ok (.istore 6, 2) := by decide +kernel
theorem dL_law__476 : decode cL_law_ 476 = .ok (.aload_n 2, 1) := by decide +kernel
theorem dL_law__477 : decode cL_law_ 477 = .ok (.invokevirtual 130, 3) := by decide +kernel
theorem dL_law__480 : decode cL_law_ 480 = .ok (.iload 5, 2) := by decide +kernel
theorem dL_law__482 : decode cL_law_ 482 = .ok (.if_icmp .eq 5, 3) := by decide +kernel
theorem dL_law__485 : decode cL_law_ 485 = .ok (.iconst 0, 1) := by decide +kernel
theorem dL_law__486 : decode cL_law_ 486 = .ok (.ireturn, 1) := by decide +kernel
theorem dL_law__487 : decode cL_law_ 487 = .ok (.iload 5, 2) := by decide +kernel
theorem dL_law__489 : decode cL_law_ 489 = .ok (.ifCond .ne 15, 3) := by decide +kernel
theorem dL_law__492 : decode cL_law_ 492 = .ok (.aload_n 3, 1) := by decide +kernel
theorem dL_law__493 : decode cL_law_ 493 = .ok (.iconst 0, 1) := by decide +kernel
theorem dL_law__494 : decode cL_law_ 494 = .ok (.laload, 1) := by decide +kernel
theorem dL_law__495 : decode cL_law_ 495 = .ok (.iload 6, 2) := by decide +kernel
theorem dL_law__497 : decode cL_law_ 497 = .ok (.i2l, 1) := by decide +kernel
theorem dL_law__498 : decode cL_law_ 498 = .ok (.lcmp, 1) := by decide +kernel
theorem dL_law__499 : decode cL_law_ 499 = .ok (.ifCond .eq 5, 3) := by decide +kernel
theorem dL_law__502 : decode cL_law_ 502 = .ok (.iconst 0, 1) := by decide +kernel
theorem dL_law__503 : decode cL_law_ 503 = .ok (.ireturn, 1) := by decide +kernel
theorem dL_law__504 : decode cL_law_ 504 = .ok (.goto 1979, 3) := by decide +kernel
theorem dL_law__507 : decode cL_law_ 507 = .ok (.aload_n 1, 1) := by decide +kernel
theorem dL_law__508 : decode cL_law_ 508 = .ok (.aload_n 0, 1) := by decide +kernel
theorem dL_law__509 : decode cL_law_ 509 = .ok (.iload 4, 2) := by decide +kernel
theorem dL_law__511 : decode cL_law_ 511 = .ok (.iconst 1, 1) := by decide +kernel
theorem dL_law__512 : decode cL_law_ 512 = .ok (.iadd, 1) := by decide +kernel
theorem dL_law__513 : decode cL_law_ 513 = .ok (.iaload, 1) := by decide +kernel
theorem dL_law__514 : decode cL_law_ 514 = .ok (.aload_n 0, 1) := by decide +kernel
theorem dL_law__515 : decode cL_law_ 515 = .ok (.iload 4, 2) := by decide +kernel
theorem dL_law__517 : decode cL_law_ 517 = .ok (.iconst 2, 1) := by decide +kernel
theorem dL_law__518 : decode cL_law_ 518 = .ok (.iadd, 1) := by decide +kernel
theorem dL_law__519 : decode cL_law_ 519 = .ok (.iaload, 1) := by decide +kernel
theorem dL_law__520 : decode cL_law_ 520 = .ok (.aload_n 3, 1) := by decide +kernel
theorem dL_law__521 : decode cL_law_ 521 = .ok (.invokestatic 144, 3) := by decide +kernel
theorem dL_law__524 : decode cL_law_ 524 = .ok (.istore 5, 2) := by decide +kernel
theorem dL_law__526 : decode cL_law_ 526 = .ok (.aload_n 2, 1) := by decide +kernel
theorem dL_law__527 : decode cL_law_ 527 = .ok (.aload_n 0, 1) := by decide +kernel
theorem dL_law__528 : decode cL_law_ 528 = .ok (.iload 4, 2) := by decide +kernel
theorem dL_law__530 : decode cL_law_ 530 = .ok (.iconst 1, 1) := by decide +kernel
theorem dL_law__531 : decode cL_law_ 531 = .ok (.iadd, 1) := by decide +kernel
theorem dL_law__532 : decode cL_law_ 532 = .ok (.iaload, 1) := by decide +kernel
theorem dL_law__533 : decode cL_law_ 533 = .ok (.aload_n 0, 1) := by decide +kernel
theorem dL_law__534 : decode cL_law_ 534 = .ok (.iload 4, 2) := by decide +kernel
theorem dL_law__536 : decode cL_law_ 536 = .ok (.iconst 2, 1) := by decide +kernel
theorem dL_law__537 : decode cL_law_ 537 = .ok (.iadd, 1) := by decide +kernel
theorem dL_law__538 : decode cL_law_ 538 = .ok (.iaload, 1) := by decide +kernel
theorem dL_law__539 : decode cL_law_ 539 = .ok (.invokevirtual 146, 3) := by decide +kernel
theorem dL_law__542 : decode cL_law_ 542 = .ok (.istore 6, 2) := by decide +kernel
theorem dL_law__544 : decode cL_law_ 544 = .ok (.aload_n 2, 1) := by decide +kernel
theorem dL_law__545 : decode cL_law_ 545 = .ok (.invokevirtual 130, 3) := by decide +kernel
theorem dL_law__548 : decode cL_law_ 548 = .ok (.iload 5, 2) := by decide +kernel
theorem dL_law__550 : decode cL_law_ 550 = .ok (.if_icmp .eq 5, 3) := by decide +kernel
theorem dL_law__553 : decode cL_law_ 553 = .ok (.iconst 0, 1) := by decide +kernel
theorem dL_law__554 : decode cL_law_ 554 = .ok (.ireturn, 1) := by decide +kernel
theorem dL_law__555 : decode cL_law_ 555 = .ok (.iload 5, 2) := by decide +kernel
theorem dL_law__557 : decode cL_law_ 557 = .ok (.ifCond .ne 15, 3) := by decide +kernel
theorem dL_law__560 : decode cL_law_ 560 = .ok (.aload_n 3, 1) := by decide +kernel
theorem dL_law__561 : decode cL_law_ 561 = .ok (.iconst 0, 1) := by decide +kernel
theorem dL_law__562 : decode cL_law_ 562 = .ok (.laload, 1) := by decide +kernel
theorem dL_law__563 : decode cL_law_ 563 = .ok (.iload 6, 2) := by decide +kernel
theorem dL_law__565 : decode cL_law_ 565 = .ok (.i2l, 1) := by decide +kernel
theorem dL_law__566 : decode cL_law_ 566 = .ok (.lcmp, 1) := by decide +kernel
theorem dL_law__567 : decode cL_law_ 567 = .ok (.ifCond .eq 5, 3) := by decide +kernel
theorem dL_law__570 : decode cL_law_ 570 = .ok (.iconst 0, 1) := by decide +kernel
theorem dL_law__571 : decode cL_law_ 571 = .ok (.ireturn, 1) := by decide +kernel
theorem dL_law__572 : decode cL_law_ 572 = .ok (.goto 1911, 3) := by decide +kernel
theorem dL_law__575 : decode cL_law_ 575 = .ok (.aload_n 1, 1) := by decide +kernel
theorem dL_law__576 : decode cL_law_ 576 = .ok (.aload_n 0, 1) := by decide +kernel
theorem dL_law__577 : decode cL_law_ 577 = .ok (.iload 4, 2) := by decide +kernel
theorem dL_law__579 : decode cL_law_ 579 = .ok (.iconst 1, 1) := by decide +kernel
theorem dL_law__580 : decode cL_law_ 580 = .ok (.iadd, 1) := by decide +kernel
theorem dL_law__581 : decode cL_law_ 581 = .ok (.iaload, 1) := by decide +kernel
theorem dL_law__582 : decode cL_law_ 582 = .ok (.aload_n 0, 1) := by decide +kernel
theorem dL_law__583 : decode cL_law_ 583 = .ok (.iload 4, 2) := by decide +kernel
theorem dL_law__585 : decode cL_law_ 585 = .ok (.iconst 2, 1) := by decide +kernel
theorem dL_law__586 : decode cL_law_ 586 = .ok (.iadd, 1) := by decide +kernel
theorem dL_law__587 : decode cL_law_ 587 = .ok (.iaload, 1) := by decide +kernel
theorem dL_law__588 : decode cL_law_ 588 = .ok (.aload_n 3, 1) := by decide +kernel
theorem dL_law__589 : decode cL_law_ 589 = .ok (.invokestatic 147, 3) := by decide +kernel
theorem dL_law__592 : decode cL_law_ 592 = .ok (.istore 5, 2) := by decide +kernel
theorem dL_law__594 : decode cL_law_ 594 = .ok (.aload_n 2, 1) := by decide +kernel
theorem dL_law__595 : decode cL_law_ 595 = .ok (.aload_n 0, 1) := by decide +kernel
theorem dL_law__596 : decode cL_law_ 596 = .ok (.iload 4, 2) := by decide +kernel
theorem dL_law__598 : decode cL_law_ 598 = .ok (.iconst 1, 1) := by decide +kernel
theorem dL_law__599 : decode cL_law_ 599 = .ok (.iadd, 1) := by decide +kernel
theorem dL_law__600 : decode cL_law_ 600 = .ok (.iaload, 1) := by decide +kernel
theorem dL_law__601 : decode cL_law_ 601 = .ok (.aload_n 0, 1) := by decide +kernel
theorem dL_law__602 : decode cL_law_ 602 = .ok (.iload 4, 2) := by decide +kernel
theorem dL_law__604 : decode cL_law_ 604 = .ok (.iconst 2, 1) := by decide +kernel
theorem dL_law__605 : decode cL_law_ 605 = .ok (.iadd, 1) := by decide +kernel
theorem dL_law__606 : decode cL_law_ 606 = .ok (.iaload, 1) := by decide +kernel
theorem dL_law__607 : decode cL_law_ 607 = .ok (.invokevirtual 149, 3) := by decide +kernel
theorem dL_law__610 : decode cL_law_ 610 = .ok (.istore 6, 2) := by decide +kernel
theorem dL_law__612 : decode cL_law_ 612 = .ok (.aload_n 2, 1) := by decide +kernel
theorem dL_law__613 : decode cL_law_ 613 = .ok (.invokevirtual 130, 3) := by decide +kernel
theorem dL_law__616 : decode cL_law_ 616 = .ok (.iload 5, 2) := by decide +kernel
theorem dL_law__618 : decode cL_law_ 618 = .ok (.if_icmp .eq 5, 3) := by decide +kernel
theorem dL_law__621 : decode cL_law_ 621 = .ok (.iconst 0, 1) := by decide +kernel
theorem dL_law__622 : decode cL_law_ 622 = .ok (.ireturn, 1) := by decide +kernel
theorem dL_law__623 : decode cL_law_ 623 = .ok (.iload 5, 2) := by decide +kernel
theorem dL_law__625 : decode cL_law_ 625 = .ok (.ifCond .ne 15, 3) := by decide +kernel
theorem dL_law__628 : decode cL_law_ 628 = .ok (.aload_n 3, 1) := by decide +kernel
theorem dL_law__629 : decode cL_law_ 629 = .ok (.iconst 0, 1) := by decide +kernel
theorem dL_law__630 : decode cL_law_ 630 = .ok (.laload, 1) := by decide +kernel
theorem dL_law__631 : decode cL_law_ 631 = .ok (.iload 6, 2) := by decide +kernel
theorem dL_law__633 : decode cL_law_ 633 = .ok (.i2l, 1) := by decide +kernel
theorem dL_law__634 : decode cL_law_ 634 = .ok (.lcmp, 1) := by decide +kernel
theorem dL_law__635 : decode cL_law_ 635 = .ok (.ifCond .eq 5, 3) := by decide +kernel
theorem dL_law__638 : decode cL_law_ 638 = .ok (.iconst 0, 1) := by decide +kernel
theorem dL_law__639 : decode cL_law_ 639 = .ok (.ireturn, 1) := by decide +kernel
theorem dL_law__640 : decode cL_law_ 640 = .ok (.goto 1843, 3) := by decide +kernel
theorem dL_law__643 : decode cL_law_ 643 = .ok (.aload_n 1, 1) := by decide +kernel
theorem dL_law__644 : decode cL_law_ 644 = .ok (.aload_n 0, 1) := by decide +kernel
theorem dL_law__645 : decode cL_law_ 645 = .ok (.iload 4, 2) := by decide +kernel
theorem dL_law__647 : decode cL_law_ 647 = .ok (.iconst 1, 1) := by decide +kernel
theorem dL_law__648 : decode cL_law_ 648 = .ok (.iadd, 1) := by decide +kernel
theorem dL_law__649 : decode cL_law_ 649 = .ok (.iaload, 1) := by decide +kernel
theorem dL_law__650 : decode cL_law_ 650 = .ok (.aload_n 0, 1) := by decide +kernel
theorem dL_law__651 : decode cL_law_ 651 = .ok (.iload 4, 2) := by decide +kernel
theorem dL_law__653 : decode cL_law_ 653 = .ok (.iconst 2, 1) := by decide +kernel
theorem dL_law__654 : decode cL_law_ 654 = .ok (.iadd, 1) := by decide +kernel
theorem dL_law__655 : decode cL_law_ 655 = .ok (.iaload, 1) := by decide +kernel
theorem dL_law__656 : decode cL_law_ 656 = .ok (.aload_n 3, 1) := by decide +kernel
theorem dL_law__657 : decode cL_law_ 657 = .ok (.invokestatic 150, 3) := by decide +kernel
theorem dL_law__660 : decode cL_law_ 660 = .ok (.istore 5, 2) := by decide +kernel
theorem dL_law__662 : decode cL_law_ 662 = .ok (.aload_n 2, 1) := by decide +kernel
theorem dL_law__663 : decode cL_law_ 663 = .ok (.aload_n 0, 1) := by decide +kernel
theorem dL_law__664 : decode cL_law_ 664 = .ok (.iload 4, 2) := by decide +kernel
theorem dL_law__666 : decode cL_law_ 666 = .ok (.iconst 1, 1) := by decide +kernel
theorem dL_law__667 : decode cL_law_ 667 = .ok (.iadd, 1) := by decide +kernel
theorem dL_law__668 : decode cL_law_ 668 = .ok (.iaload, 1) := by decide +kernel
theorem dL_law__669 : decode cL_law_ 669 = .ok (.aload_n 0, 1) := by decide +kernel
theorem dL_law__670 : decode cL_law_ 670 = .ok (.iload 4, 2) := by decide +kernel
theorem dL_law__672 : decode cL_law_ 672 = .ok (.iconst 2, 1) := by decide +kernel
theorem dL_law__673 : decode cL_law_ 673 = .ok (.iadd, 1) := by decide +kernel
theorem dL_law__674 : decode cL_law_ 674 = .ok (.iaload, 1) := by decide +kernel
theorem dL_law__675 : decode cL_law_ 675 = .ok (.invokevirtual 152, 3) := by decide +kernel
theorem dL_law__678 : decode cL_law_ 678 = .ok (.istore 6, 2) := by decide +kernel
theorem dL_law__680 : decode cL_law_ 680 = .ok (.aload_n 2, 1) := by decide +kernel
theorem dL_law__681 : decode cL_law_ 681 = .ok (.invokevirtual 130, 3) := by decide +kernel
theorem dL_law__684 : decode cL_law_ 684 = .ok (.iload 5, 2) := by decide +kernel
theorem dL_law__686 : decode cL_law_ 686 = .ok (.if_icmp .eq 5, 3) := by decide +kernel
theorem dL_law__689 : decode cL_law_ 689 = .ok (.iconst 0, 1) := by decide +kernel
theorem dL_law__690 : decode cL_law_ 690 = .ok (.ireturn, 1) := by decide +kernel
theorem dL_law__691 : decode cL_law_ 691 = .ok (.iload 5, 2) := by decide +kernel
theorem dL_law__693 : decode cL_law_ 693 = .ok (.ifCond .ne 15, 3) := by decide +kernel
theorem dL_law__696 : decode cL_law_ 696 = .ok (.aload_n 3, 1) := by decide +kernel
theorem dL_law__697 : decode cL_law_ 697 = .ok (.iconst 0, 1) := by decide +kernel
theorem dL_law__698 : decode cL_law_ 698 = .ok (.laload, 1) := by decide +kernel
theorem dL_law__699 : decode cL_law_ 699 = .ok (.iload 6, 2) := by decide +kernel
theorem dL_law__701 : decode cL_law_ 701 = .ok (.i2l, 1) := by decide +kernel
theorem dL_law__702 : decode cL_law_ 702 = .ok (.lcmp, 1) := by decide +kernel
theorem dL_law__703 : decode cL_law_ 703 = .ok (.ifCond .eq 5, 3) := by decide +kernel
theorem dL_law__706 : decode cL_law_ 706 = .ok (.iconst 0, 1) := by decide +kernel
theorem dL_law__707 : decode cL_law_ 707 = .ok (.ireturn, 1) := by decide +kernel
theorem dL_law__708 : decode cL_law_ 708 = .ok (.goto 1775, 3) := by decide +kernel
theorem dL_law__711 : decode cL_law_ 711 = .ok (.aload_n 1, 1) := by decide +kernel
theorem dL_law__712 : decode cL_law_ 712 = .ok (.aload_n 0, 1) := by decide +kernel
theorem dL_law__713 : decode cL_law_ 713 = .ok (.iload 4, 2) := by decide +kernel
theorem dL_law__715 : decode cL_law_ 715 = .ok (.iconst 1, 1) := by decide +kernel
theorem dL_law__716 : decode cL_law_ 716 = .ok (.iadd, 1) := by decide +kernel
theorem dL_law__717 : decode cL_law_ 717 = .ok (.iaload, 1) := by decide +kernel
theorem dL_law__718 : decode cL_law_ 718 = .ok (.aload_n 0, 1) := by decide +kernel
theorem dL_law__719 : decode cL_law_ 719 = .ok (.iload 4, 2) := by decide +kernel
theorem dL_law__721 : decode cL_law_ 721 = .ok (.iconst 2, 1) := by decide +kernel
theorem dL_law__722 : decode cL_law_ 722 = .ok (.iadd, 1) := by decide +kernel
theorem dL_law__723 : decode cL_law_ 723 = .ok (.iaload, 1) := by decide +kernel
theorem dL_law__724 : decode cL_law_ 724 = .ok (.aload_n 3, 1) := by decide +kernel
theorem dL_law__725 : decode cL_law_ 725 = .ok (.invokestatic 153, 3) := by decide +kernel
theorem dL_law__728 : decode cL_law_ 728 = .ok (.istore 5, 2) := by decide +kernel
theorem dL_law__730 : decode cL_law_ 730 = .ok (.aload_n 2, 1) := by decide +kernel
theorem dL_law__731 : decode cL_law_ 731 = .ok (.aload_n 0, 1) := by decide +kernel
theorem dL_law__732 : decode cL_law_ 732 = .ok (.iload 4, 2) := by decide +kernel
theorem dL_law__734 : decode cL_law_ 734 = .ok (.iconst 1, 1) := by decide +kernel
theorem dL_law__735 : decode cL_law_ 735 = .ok (.iadd, 1) := by decide +kernel
theorem dL_law__736 : decode cL_law_ 736 = .ok (.iaload, 1) := by decide +kernel
theorem dL_law__737 : decode cL_law_ 737 = .ok (.aload_n 0, 1) := by decide +kernel
theorem dL_law__738 : decode cL_law_ 738 = .ok (.iload 4, 2) := by decide +kernel
theorem dL_law__740 : decode cL_law_ 740 = .ok (.iconst 2, 1) := by decide +kernel
theorem dL_law__741 : decode cL_law_ 741 = .ok (.iadd, 1) := by decide +kernel
theorem dL_law__742 : decode cL_law_ 742 = .ok (.iaload, 1) := by decide +kernel
theorem dL_law__743 : decode cL_law_ 743 = .ok (.invokevirtual 155, 3) := by decide +kernel
theorem dL_law__746 : decode cL_law_ 746 = .ok (.istore 6, 2) := by decide +kernel
theorem dL_law__748 : decode cL_law_ 748 = .ok (.aload_n 2, 1) := by decide +kernel
theorem dL_law__749 : decode cL_law_ 749 = .ok (.invokevirtual 130, 3) := by decide +kernel
theorem dL_law__752 : decode cL_law_ 752 = .ok (.iload 5, 2) := by decide +kernel
theorem dL_law__754 : decode cL_law_ 754 = .ok (.if_icmp .eq 5, 3) := by decide +kernel
theorem dL_law__757 : decode cL_law_ 757 = .ok (.iconst 0, 1) := by decide +kernel
theorem dL_law__758 : decode cL_law_ 758 = .ok (.ireturn, 1) := by decide +kernel
theorem dL_law__759 : decode cL_law_ 759 = .ok (.iload 5, 2) := by decide +kernel
theorem dL_law__761 : decode cL_law_ 761 = .ok (.ifCond .ne 15, 3) := by decide +kernel
theorem dL_law__764 : decode cL_law_ 764 = .ok (.aload_n 3, 1) := by decide +kernel
theorem dL_law__765 : decode cL_law_ 765 = .ok (.iconst 0, 1) := by decide +kernel
theorem dL_law__766 : decode cL_law_ 766 = .ok (.laload, 1) := by decide +kernel
theorem dL_law__767 : decode cL_law_ 767 = .ok (.iload 6, 2) := by decide +kernel
theorem dL_law__769 : decode cL_law_ 769 = .ok (.i2l, 1) := by decide +kernel
theorem dL_law__770 : decode cL_law_ 770 = .ok (.lcmp, 1) := by decide +kernel
theorem dL_law__771 : decode cL_law_ 771 = .ok (.ifCond .eq 5, 3) := by decide +kernel
theorem dL_law__774 : decode cL_law_ 774 = .ok (.iconst 0, 1) := by decide +kernel
theorem dL_law__775 : decode cL_law_ 775 = .ok (.ireturn, 1) := by decide +kernel
theorem dL_law__776 : decode cL_law_ 776 = .ok (.goto 1707, 3) := by decide +kernel
theorem dL_law__779 : decode cL_law_ 779 = .ok (.aload_n 1, 1) := by decide +kernel
theorem dL_law__780 : decode cL_law_ 780 = .ok (.aload_n 0, 1) := by decide +kernel
theorem dL_law__781 : decode cL_law_ 781 = .ok (.iload 4, 2) := by decide +kernel
theorem dL_law__783 : decode cL_law_ 783 = .ok (.iconst 1, 1) := by decide +kernel
theorem dL_law__784 : decode cL_law_ 784 = .ok (.iadd, 1) := by decide +kernel
theorem dL_law__785 : decode cL_law_ 785 = .ok (.iaload, 1) := by decide +kernel
theorem dL_law__786 : decode cL_law_ 786 = .ok (.aload_n 0, 1) := by decide +kernel
theorem dL_law__787 : decode cL_law_ 787 = .ok (.iload 4, 2) := by decide +kernel
theorem dL_law__789 : decode cL_law_ 789 = .ok (.iconst 2, 1) := by decide +kernel
theorem dL_law__790 : decode cL_law_ 790 = .ok (.iadd, 1) := by decide +kernel
theorem dL_law__791 : decode cL_law_ 791 = .ok (.iaload, 1) := by decide +kernel
theorem dL_law__792 : decode cL_law_ 792 = .ok (.ifCond .eq 7, 3) := by decide +kernel
theorem dL_law__795 : decode cL_law_ 795 = .ok (.iconst 1, 1) := by decide +kernel
theorem dL_law__796 : decode cL_law_ 796 = .ok (.goto 4, 3) := by decide +kernel
theorem dL_law__799 : decode cL_law_ 799 = .ok (.iconst 0, 1) := by decide +kernel
theorem dL_law__800 : decode cL_law_ 800 = .ok (.aload_n 3, 1) := by decide +kernel
theorem dL_law__801 : decode cL_law_ 801 = .ok (.invokestatic 156, 3) := by decide +kernel
theorem dL_law__804 : decode cL_law_ 804 = .ok (.istore 5, 2) := by decide +kernel
theorem dL_law__806 : decode cL_law_ 806 = .ok (.aload_n 2, 1) := by decide +kernel
theorem dL_law__807 : decode cL_law_ 807 = .ok (.aload_n 0, 1) := by decide +kernel
theorem dL_law__808 : decode cL_law_ 808 = .ok (.iload 4, 2) := by decide +kernel
theorem dL_law__810 : decode cL_law_ 810 = .ok (.iconst 1, 1) := by decide +kernel
theorem dL_law__811 : decode cL_law_ 811 = .ok (.iadd, 1) := by decide +kernel
theorem dL_law__812 : decode cL_law_ 812 = .ok (.iaload, 1) := by decide +kernel
theorem dL_law__813 : decode cL_law_ 813 = .ok (.aload_n 0, 1) := by decide +kernel
theorem dL_law__814 : decode cL_law_ 814 = .ok (.iload 4, 2) := by decide +kernel
theorem dL_law__816 : decode cL_law_ 816 = .ok (.iconst 2, 1) := by decide +kernel
theorem dL_law__817 : decode cL_law_ 817 = .ok (.iadd, 1) := by decide +kernel
theorem dL_law__818 : decode cL_law_ 818 = .ok (.iaload, 1) := by decide +kernel
theorem dL_law__819 : decode cL_law_ 819 = .ok (.ifCond .eq 7, 3) := by decide +kernel
theorem dL_law__822 : decode cL_law_ 822 = .ok (.iconst 1, 1) := by decide +kernel
theorem dL_law__823 : decode cL_law_ 823 = .ok (.goto 4, 3) := by decide +kernel
theorem dL_law__826 : decode cL_law_ 826 = .ok (.iconst 0, 1) := by decide +kernel
theorem dL_law__827 : decode cL_law_ 827 = .ok (.invokevirtual 159, 3) := by decide +kernel
theorem dL_law__830 : decode cL_law_ 830 = .ok (.istore 6, 2) := by decide +kernel
theorem dL_law__832 : decode cL_law_ 832 = .ok (.aload_n 2, 1) := by decide +kernel
theorem dL_law__833 : decode cL_law_ 833 = .ok (.invokevirtual 130, 3) := by decide +kernel
theorem dL_law__836 : decode cL_law_ 836 = .ok (.iload 5, 2) := by decide +kernel
theorem dL_law__838 : decode cL_law_ 838 = .ok (.if_icmp .eq 5, 3) := by decide +kernel
theorem dL_law__841 : decode cL_law_ 841 = .ok (.iconst 0, 1) := by decide +kernel
theorem dL_law__842 : decode cL_law_ 842 = .ok (.ireturn, 1) := by decide +kernel
theorem dL_law__843 : decode cL_law_ 843 = .ok (.iload 5, 2) := by decide +kernel
theorem dL_law__845 : decode cL_law_ 845 = .ok (.ifCond .ne 22, 3) := by decide +kernel
theorem dL_law__848 : decode cL_law_ 848 = .ok (.aload_n 3, 1) := by decide +kernel
theorem dL_law__849 : decode cL_law_ 849 = .ok (.iconst 0, 1) := by decide +kernel
theorem dL_law__850 : decode cL_law_ 850 = .ok (.laload, 1) := by decide +kernel
theorem dL_law__851 : decode cL_law_ 851 = .ok (.iload 6, 2) := by decide +kernel
theorem dL_law__853 : decode cL_law_ 853 = .ok (.ifCond .eq 7, 3) := by decide +kernel
theorem dL_law__856 : decode cL_law_ 856 = .ok (.lconst 1, 1) := by decide +kernel
theorem dL_law__857 : decode cL_law_ 857 = .ok (.goto 4, 3) := by decide +kernel
theorem dL_law__860 : decode cL_law_ 860 = .ok (.lconst 0, 1) := by decide +kernel
theorem dL_law__861 : decode cL_law_ 861 = .ok (.lcmp, 1) := by decide +kernel
theorem dL_law__862 : decode cL_law_ 862 = .ok (.ifCond .eq 5, 3) := by decide +kernel
theorem dL_law__865 : decode cL_law_ 865 = .ok (.iconst 0, 1) := by decide +kernel
theorem dL_law__866 : decode cL_law_ 866 = .ok (.ireturn, 1) := by decide +kernel
theorem dL_law__867 : decode cL_law_ 867 = .ok (.goto 1616, 3) := by decide +kernel
theorem dL_law__870 : decode cL_law_ 870 = .ok (.aload_n 1, 1) := by decide +kernel
theorem dL_law__871 : decode cL_law_ 871 = .ok (.aload_n 0, 1) := by decide +kernel
theorem dL_law__872 : decode cL_law_ 872 = .ok (.iload 4, 2) := by decide +kernel
theorem dL_law__874 : decode cL_law_ 874 = .ok (.iconst 1, 1) := by decide +kernel
theorem dL_law__875 : decode cL_law_ 875 = .ok (.iadd, 1) := by decide +kernel
theorem dL_law__876 : decode cL_law_ 876 = .ok (.iaload, 1) := by decide +kernel
theorem dL_law__877 : decode cL_law_ 877 = .ok (.aload_n 3, 1) := by decide +kernel
theorem dL_law__878 : decode cL_law_ 878 = .ok (.invokestatic 160, 3) := by decide +kernel
theorem dL_law__881 : decode cL_law_ 881 = .ok (.istore 5, 2) := by decide +kernel
theorem dL_law__883 : decode cL_law_ 883 = .ok (.aload_n 2, 1) := by decide +kernel
theorem dL_law__884 : decode cL_law_ 884 = .ok (.aload_n 0, 1) := by decide +kernel
theorem dL_law__885 : decode cL_law_ 885 = .ok (.iload 4, 2) := by decide +kernel
theorem dL_law__887 : decode cL_law_ 887 = .ok (.iconst 1, 1) := by decide +kernel
theorem dL_law__888 : decode cL_law_ 888 = .ok (.iadd, 1) := by decide +kernel
theorem dL_law__889 : decode cL_law_ 889 = .ok (.iaload, 1) := by decide +kernel
theorem dL_law__890 : decode cL_law_ 890 = .ok (.invokevirtual 163, 3) := by decide +kernel
theorem dL_law__893 : decode cL_law_ 893 = .ok (.istore 6, 2) := by decide +kernel
theorem dL_law__895 : decode cL_law_ 895 = .ok (.aload_n 2, 1) := by decide +kernel
theorem dL_law__896 : decode cL_law_ 896 = .ok (.invokevirtual 130, 3) := by decide +kernel
theorem dL_law__899 : decode cL_law_ 899 = .ok (.iload 5, 2) := by decide +kernel
theorem dL_law__901 : decode cL_law_ 901 = .ok (.if_icmp .eq 5, 3) := by decide +kernel
theorem dL_law__904 : decode cL_law_ 904 = .ok (.iconst 0, 1) := by decide +kernel
theorem dL_law__905 : decode cL_law_ 905 = .ok (.ireturn, 1) := by decide +kernel
theorem dL_law__906 : decode cL_law_ 906 = .ok (.iload 5, 2) := by decide +kernel
theorem dL_law__908 : decode cL_law_ 908 = .ok (.ifCond .ne 15, 3) := by decide +kernel
theorem dL_law__911 : decode cL_law_ 911 = .ok (.aload_n 3, 1) := by decide +kernel
theorem dL_law__912 : decode cL_law_ 912 = .ok (.iconst 0, 1) := by decide +kernel
theorem dL_law__913 : decode cL_law_ 913 = .ok (.laload, 1) := by decide +kernel
theorem dL_law__914 : decode cL_law_ 914 = .ok (.iload 6, 2) := by decide +kernel
theorem dL_law__916 : decode cL_law_ 916 = .ok (.i2l, 1) := by decide +kernel
theorem dL_law__917 : decode cL_law_ 917 = .ok (.lcmp, 1) := by decide +kernel
theorem dL_law__918 : decode cL_law_ 918 = .ok (.ifCond .eq 5, 3) := by decide +kernel
theorem dL_law__921 : decode cL_law_ 921 = .ok (.iconst 0, 1) := by decide +kernel
theorem dL_law__922 : decode cL_law_ 922 = .ok (.ireturn, 1) := by decide +kernel
theorem dL_law__923 : decode cL_law_ 923 = .ok (.goto 1560, 3) := by decide +kernel
theorem dL_law__926 : decode cL_law_ 926 = .ok (.aload_n 1, 1) := by decide +kernel
theorem dL_law__927 : decode cL_law_ 927 = .ok (.aload_n 0, 1) := by decide +kernel
theorem dL_law__928 : decode cL_law_ 928 = .ok (.iload 4, 2) := by decide +kernel
theorem dL_law__930 : decode cL_law_ 930 = .ok (.iconst 1, 1) := by decide +kernel
theorem dL_law__931 : decode cL_law_ 931 = .ok (.iadd, 1) := by decide +kernel
theorem dL_law__932 : decode cL_law_ 932 = .ok (.iaload, 1) := by decide +kernel
theorem dL_law__933 : decode cL_law_ 933 = .ok (.aload_n 0, 1) := by decide +kernel
theorem dL_law__934 : decode cL_law_ 934 = .ok (.iload 4, 2) := by decide +kernel
theorem dL_law__936 : decode cL_law_ 936 = .ok (.iconst 2, 1) := by decide +kernel
theorem dL_law__937 : decode cL_law_ 937 = .ok (.iadd, 1) := by decide +kernel
theorem dL_law__938 : decode cL_law_ 938 = .ok (.iaload, 1) := by decide +kernel
theorem dL_law__939 : decode cL_law_ 939 = .ok (.aload_n 0, 1) := by decide +kernel
theorem dL_law__940 : decode cL_law_ 940 = .ok (.iload 4, 2) := by decide +kernel
theorem dL_law__942 : decode cL_law_ 942 = .ok (.iconst 3, 1) := by decide +kernel
theorem dL_law__943 : decode cL_law_ 943 = .ok (.iadd, 1) := by decide +kernel
theorem dL_law__944 : decode cL_law_ 944 = .ok (.iaload, 1) := by decide +kernel
theorem dL_law__945 : decode cL_law_ 945 = .ok (.aload_n 3, 1) := by decide +kernel
theorem dL_law__946 : decode cL_law_ 946 = .ok (.invokestatic 164, 3) := by decide +kernel
theorem dL_law__949 : decode cL_law_ 949 = .ok (.istore 5, 2) := by decide +kernel
theorem dL_law__951 : decode cL_law_ 951 = .ok (.aload_n 2, 1) := by decide +kernel
theorem dL_law__952 : decode cL_law_ 952 = .ok (.aload_n 0, 1) := by decide +kernel
theorem dL_law__953 : decode cL_law_ 953 = .ok (.iload 4, 2) := by decide +kernel
theorem dL_law__955 : decode cL_law_ 955 = .ok (.iconst 1, 1) := by decide +kernel
theorem dL_law__956 : decode cL_law_ 956 = .ok (.iadd, 1) := by decide +kernel
theorem dL_law__957 : decode cL_law_ 957 = .ok (.iaload, 1) := by decide +kernel
theorem dL_law__958 : decode cL_law_ 958 = .ok (.aload_n 0, 1) := by decide +kernel
theorem dL_law__959 : decode cL_law_ 959 = .ok (.iload 4, 2) := by decide +kernel
theorem dL_law__961 : decode cL_law_ 961 = .ok (.iconst 2, 1) := by decide +kernel
theorem dL_law__962 : decode cL_law_ 962 = .ok (.iadd, 1) := by decide +kernel
theorem dL_law__963 : decode cL_law_ 963 = .ok (.iaload, 1) := by decide +kernel
theorem dL_law__964 : decode cL_law_ 964 = .ok (.aload_n 0, 1) := by decide +kernel
theorem dL_law__965 : decode cL_law_ 965 = .ok (.iload 4, 2) := by decide +kernel
theorem dL_law__967 : decode cL_law_ 967 = .ok (.iconst 3, 1) := by decide +kernel
theorem dL_law__968 : decode cL_law_ 968 = .ok (.iadd, 1) := by decide +kernel
theorem dL_law__969 : decode cL_law_ 969 = .ok (.iaload, 1) := by decide +kernel
theorem dL_law__970 : decode cL_law_ 970 = .ok (.invokevirtual 167, 3) := by decide +kernel
theorem dL_law__973 : decode cL_law_ 973 = .ok (.istore 6, 2) := by decide +kernel
theorem dL_law__975 : decode cL_law_ 975 = .ok (.aload_n 2, 1) := by decide +kernel
theorem dL_law__976 : decode cL_law_ 976 = .ok (.invokevirtual 130, 3) := by decide +kernel
theorem dL_law__979 : decode cL_law_ 979 = .ok (.iload 5, 2) := by decide +kernel
theorem dL_law__981 : decode cL_law_ 981 = .ok (.if_icmp .eq 5, 3) := by decide +kernel
theorem dL_law__984 : decode cL_law_ 984 = .ok (.iconst 0, 1) := by decide +kernel
theorem dL_law__985 : decode cL_law_ 985 = .ok (.ireturn, 1) := by decide +kernel
theorem dL_law__986 : decode cL_law_ 986 = .ok (.iload 5, 2) := by decide +kernel
theorem dL_law__988 : decode cL_law_ 988 = .ok (.ifCond .ne 15, 3) := by decide +kernel
theorem dL_law__991 : decode cL_law_ 991 = .ok (.aload_n 3, 1) := by decide +kernel
theorem dL_law__992 : decode cL_law_ 992 = .ok (.iconst 0, 1) := by decide +kernel
theorem dL_law__993 : decode cL_law_ 993 = .ok (.laload, 1) := by decide +kernel
theorem dL_law__994 : decode cL_law_ 994 = .ok (.iload 6, 2) := by decide +kernel
theorem dL_law__996 : decode cL_law_ 996 = .ok (.i2l, 1) := by decide +kernel
theorem dL_law__997 : decode cL_law_ 997 = .ok (.lcmp, 1) := by decide +kernel
theorem dL_law__998 : decode cL_law_ 998 = .ok (.ifCond .eq 5, 3) := by decide +kernel
theorem dL_law__1001 : decode cL_law_ 1001 = .ok (.iconst 0, 1) := by decide +kernel
theorem dL_law__1002 : decode cL_law_ 1002 = .ok (.ireturn, 1) := by decide +kernel
theorem dL_law__1003 : decode cL_law_ 1003 = .ok (.goto 1480, 3) := by decide +kernel
theorem dL_law__1006 : decode cL_law_ 1006 = .ok (.aload_n 1, 1) := by decide +kernel
theorem dL_law__1007 : decode cL_law_ 1007 = .ok (.invokevirtual 168, 3) := by decide +kernel
theorem dL_law__1010 : decode cL_law_ 1010 = .ok (.aload_n 2, 1) := by decide +kernel
theorem dL_law__1011 : decode cL_law_ 1011 = .ok (.invokevirtual 171, 3) := by decide +kernel
theorem dL_law__1014 : decode cL_law_ 1014 = .ok (.if_icmp .eq 1469, 3) := by decide +kernel
theorem dL_law__1017 : decode cL_law_ 1017 = .ok (.iconst 0, 1) := by decide +kernel
theorem dL_law__1018 : decode cL_law_ 1018 = .ok (.ireturn, 1) := by decide +kernel
theorem dL_law__1019 : decode cL_law_ 1019 = .ok (.aload_n 1, 1) := by decide +kernel
theorem dL_law__1020 : decode cL_law_ 1020 = .ok (.aload_n 0, 1) := by decide +kernel
theorem dL_law__1021 : decode cL_law_ 1021 = .ok (.iload 4, 2) := by decide +kernel
theorem dL_law__1023 : decode cL_law_ 1023 = .ok (.iconst 1, 1) := by decide +kernel
theorem dL_law__1024 : decode cL_law_ 1024 = .ok (.iadd, 1) := by decide +kernel
theorem dL_law__1025 : decode cL_law_ 1025 = .ok (.iaload, 1) := by decide +kernel
theorem dL_law__1026 : decode cL_law_ 1026 = .ok (.aload_n 3, 1) := by decide +kernel
theorem dL_law__1027 : decode cL_law_ 1027 = .ok (.invokestatic 172, 3) := by decide +kernel
theorem dL_law__1030 : decode cL_law_ 1030 = .ok (.istore 5, 2) := by decide +kernel
theorem dL_law__1032 : decode cL_law_ 1032 = .ok (.aload_n 2, 1) := by decide +kernel
theorem dL_law__1033 : decode cL_law_ 1033 = .ok (.aload_n 0, 1) := by decide +kernel
theorem dL_law__1034 : decode cL_law_ 1034 = .ok (.iload 4, 2) := by decide +kernel
theorem dL_law__1036 : decode cL_law_ 1036 = .ok (.iconst 1, 1) := by decide +kernel
theorem dL_law__1037 : decode cL_law_ 1037 = .ok (.iadd, 1) := by decide +kernel
theorem dL_law__1038 : decode cL_law_ 1038 = .ok (.iaload, 1) := by decide +kernel
theorem dL_law__1039 : decode cL_law_ 1039 = .ok (.invokevirtual 174, 3) := by decide +kernel
theorem dL_law__1042 : decode cL_law_ 1042 = .ok (.istore 6, 2) := by decide +kernel
theorem dL_law__1044 : decode cL_law_ 1044 = .ok (.aload_n 2, 1) := by decide +kernel
theorem dL_law__1045 : decode cL_law_ 1045 = .ok (.invokevirtual 130, 3) := by decide +kernel
theorem dL_law__1048 : decode cL_law_ 1048 = .ok (.iload 5, 2) := by decide +kernel
theorem dL_law__1050 : decode cL_law_ 1050 = .ok (.if_icmp .eq 5, 3) := by decide +kernel
theorem dL_law__1053 : decode cL_law_ 1053 = .ok (.iconst 0, 1) := by decide +kernel
theorem dL_law__1054 : decode cL_law_ 1054 = .ok (.ireturn, 1) := by decide +kernel
theorem dL_law__1055 : decode cL_law_ 1055 = .ok (.iload 5, 2) := by decide +kernel
theorem dL_law__1057 : decode cL_law_ 1057 = .ok (.ifCond .ne 15, 3) := by decide +kernel
theorem dL_law__1060 : decode cL_law_ 1060 = .ok (.aload_n 3, 1) := by decide +kernel
theorem dL_law__1061 : decode cL_law_ 1061 = .ok (.iconst 0, 1) := by decide +kernel
theorem dL_law__1062 : decode cL_law_ 1062 = .ok (.laload, 1) := by decide +kernel
theorem dL_law__1063 : decode cL_law_ 1063 = .ok (.iload 6, 2) := by decide +kernel
theorem dL_law__1065 : decode cL_law_ 1065 = .ok (.i2l, 1) := by decide +kernel
theorem dL_law__1066 : decode cL_law_ 1066 = .ok (.lcmp, 1) := by decide +kernel
theorem dL_law__1067 : decode cL_law_ 1067 = .ok (.ifCond .eq 5, 3) := by decide +kernel
theorem dL_law__1070 : decode cL_law_ 1070 = .ok (.iconst 0, 1) := by decide +kernel
theorem dL_law__1071 : decode cL_law_ 1071 = .ok (.ireturn, 1) := by decide +kernel
theorem dL_law__1072 : decode cL_law_ 1072 = .ok (.goto 1411, 3) := by decide +kernel
theorem dL_law__1075 : decode cL_law_ 1075 = .ok (.aload_n 1, 1) := by decide +kernel
theorem dL_law__1076 : decode cL_law_ 1076 = .ok (.invokevirtual 175, 3) := by decide +kernel
theorem dL_law__1079 : decode cL_law_ 1079 = .ok (.aload_n 2, 1) := by decide +kernel
theorem dL_law__1080 : decode cL_law_ 1080 = .ok (.invokevirtual 178, 3) := by decide +kernel
theorem dL_law__1083 : decode cL_law_ 1083 = .ok (.if_icmp .eq 1400, 3) := by decide +kernel
theorem dL_law__1086 : decode cL_law_ 1086 = .ok (.iconst 0, 1) := by decide +kernel
theorem dL_law__1087 : decode cL_law_ 1087 = .ok (.ireturn, 1) := by decide +kernel
theorem dL_law__1088 : decode cL_law_ 1088 = .ok (.aload_n 1, 1) := by decide +kernel
theorem dL_law__1089 : decode cL_law_ 1089 = .ok (.invokevirtual 179, 3) := by decide +kernel
theorem dL_law__1092 : decode cL_law_ 1092 = .ok (.aload_n 2, 1) := by decide +kernel
theorem dL_law__1093 : decode cL_law_ 1093 = .ok (.invokevirtual 182, 3) := by decide +kernel
theorem dL_law__1096 : decode cL_law_ 1096 = .ok (.if_icmp .eq 1387, 3) := by decide +kernel
theorem dL_law__1099 : decode cL_law_ 1099 = .ok (.iconst 0, 1) := by decide +kernel
theorem dL_law__1100 : decode cL_law_ 1100 = .ok (.ireturn, 1) := by decide +kernel
theorem dL_law__1101 : decode cL_law_ 1101 = .ok (.aload_n 1, 1) := by decide +kernel
theorem dL_law__1102 : decode cL_law_ 1102 = .ok (.invokevirtual 183, 3) := by decide +kernel
theorem dL_law__1105 : decode cL_law_ 1105 = .ok (.aload_n 2, 1) := by decide +kernel
theorem dL_law__1106 : decode cL_law_ 1106 = .ok (.invokevirtual 186, 3) := by decide +kernel
theorem dL_law__1109 : decode cL_law_ 1109 = .ok (.if_icmp .eq 1374, 3) := by decide +kernel
theorem dL_law__1112 : decode cL_law_ 1112 = .ok (.iconst 0, 1) := by decide +kernel
theorem dL_law__1113 : decode cL_law_ 1113 = .ok (.ireturn, 1) := by decide +kernel
theorem dL_law__1114 : decode cL_law_ 1114 = .ok (.aload_n 1, 1) := by decide +kernel
theorem dL_law__1115 : decode cL_law_ 1115 = .ok (.aload_n 0, 1) := by decide +kernel
theorem dL_law__1116 : decode cL_law_ 1116 = .ok (.iload 4, 2) := by decide +kernel
theorem dL_law__1118 : decode cL_law_ 1118 = .ok (.iconst 1, 1) := by decide +kernel
theorem dL_law__1119 : decode cL_law_ 1119 = .ok (.iadd, 1) := by decide +kernel
theorem dL_law__1120 : decode cL_law_ 1120 = .ok (.iaload, 1) := by decide +kernel
theorem dL_law__1121 : decode cL_law_ 1121 = .ok (.aload_n 3, 1) := by decide +kernel
theorem dL_law__1122 : decode cL_law_ 1122 = .ok (.invokestatic 187, 3) := by decide +kernel
theorem dL_law__1125 : decode cL_law_ 1125 = .ok (.istore 5, 2) := by decide +kernel
theorem dL_law__1127 : decode cL_law_ 1127 = .ok (.aload_n 2, 1) := by decide +kernel
theorem dL_law__1128 : decode cL_law_ 1128 = .ok (.aload_n 0, 1) := by decide +kernel
theorem dL_law__1129 : decode cL_law_ 1129 = .ok (.iload 4, 2) := by decide +kernel
theorem dL_law__1131 : decode cL_law_ 1131 = .ok (.iconst 1, 1) := by decide +kernel
theorem dL_law__1132 : decode cL_law_ 1132 = .ok (.iadd, 1) := by decide +kernel
theorem dL_law__1133 : decode cL_law_ 1133 = .ok (.iaload, 1) := by decide +kernel
theorem dL_law__1134 : decode cL_law_ 1134 = .ok (.invokevirtual 189, 3) := by decide +kernel
theorem dL_law__1137 : decode cL_law_ 1137 = .ok (.istore 6, 2) := by decide +kernel
theorem dL_law__1139 : decode cL_law_ 1139 = .ok (.aload_n 2, 1) := by decide +kernel
theorem dL_law__1140 : decode cL_law_ 1140 = .ok (.invokevirtual 130, 3) := by decide +kernel
theorem dL_law__1143 : decode cL_law_ 1143 = .ok (.iload 5, 2) := by decide +kernel
theorem dL_law__1145 : decode cL_law_ 1145 = .ok (.if_icmp .eq 5, 3) := by decide +kernel
theorem dL_law__1148 : decode cL_law_ 1148 = .ok (.iconst 0, 1) := by decide +kernel
theorem dL_law__1149 : decode cL_law_ 1149 = .ok (.ireturn, 1) := by decide +kernel
theorem dL_law__1150 : decode cL_law_ 1150 = .ok (.iload 5, 2) := by decide +kernel
theorem dL_law__1152 : decode cL_law_ 1152 = .ok (.ifCond .ne 15, 3) := by decide +kernel
theorem dL_law__1155 : decode cL_law_ 1155 = .ok (.aload_n 3, 1) := by decide +kernel
theorem dL_law__1156 : decode cL_law_ 1156 = .ok (.iconst 0, 1) := by decide +kernel
theorem dL_law__1157 : decode cL_law_ 1157 = .ok (.laload, 1) := by decide +kernel
theorem dL_law__1158 : decode cL_law_ 1158 = .ok (.iload 6, 2) := by decide +kernel
theorem dL_law__1160 : decode cL_law_ 1160 = .ok (.i2l, 1) := by decide +kernel
theorem dL_law__1161 : decode cL_law_ 1161 = .ok (.lcmp, 1) := by decide +kernel
theorem dL_law__1162 : decode cL_law_ 1162 = .ok (.ifCond .eq 5, 3) := by decide +kernel
theorem dL_law__1165 : decode cL_law_ 1165 = .ok (.iconst 0, 1) := by decide +kernel
theorem dL_law__1166 : decode cL_law_ 1166 = .ok (.ireturn, 1) := by decide +kernel
theorem dL_law__1167 : decode cL_law_ 1167 = .ok (.goto 1316, 3) := by decide +kernel
theorem dL_law__1170 : decode cL_law_ 1170 = .ok (.aload_n 1, 1) := by decide +kernel
theorem dL_law__1171 : decode cL_law_ 1171 = .ok (.aload_n 0, 1) := by decide +kernel
theorem dL_law__1172 : decode cL_law_ 1172 = .ok (.iload 4, 2) := by decide +kernel
theorem dL_law__1174 : decode cL_law_ 1174 = .ok (.iconst 1, 1) := by decide +kernel
theorem dL_law__1175 : decode cL_law_ 1175 = .ok (.iadd, 1) := by decide +kernel
theorem dL_law__1176 : decode cL_law_ 1176 = .ok (.iaload, 1) := by decide +kernel
theorem dL_law__1177 : decode cL_law_ 1177 = .ok (.aload_n 0, 1) := by decide +kernel
theorem dL_law__1178 : decode cL_law_ 1178 = .ok (.iload 4, 2) := by decide +kernel
theorem dL_law__1180 : decode cL_law_ 1180 = .ok (.iconst 2, 1) := by decide +kernel
theorem dL_law__1181 : decode cL_law_ 1181 = .ok (.iadd, 1) := by decide +kernel
theorem dL_law__1182 : decode cL_law_ 1182 = .ok (.iaload, 1) := by decide +kernel
theorem dL_law__1183 : decode cL_law_ 1183 = .ok (.aload_n 3, 1) := by decide +kernel
theorem dL_law__1184 : decode cL_law_ 1184 = .ok (.invokestatic 190, 3) := by decide +kernel
theorem dL_law__1187 : decode cL_law_ 1187 = .ok (.istore 5, 2) := by decide +kernel
theorem dL_law__1189 : decode cL_law_ 1189 = .ok (.aload_n 2, 1) := by decide +kernel
theorem dL_law__1190 : decode cL_law_ 1190 = .ok (.aload_n 0, 1) := by decide +kernel
theorem dL_law__1191 : decode cL_law_ 1191 = .ok (.iload 4, 2) := by decide +kernel
theorem dL_law__1193 : decode cL_law_ 1193 = .ok (.iconst 1, 1) := by decide +kernel
theorem dL_law__1194 : decode cL_law_ 1194 = .ok (.iadd, 1) := by decide +kernel
theorem dL_law__1195 : decode cL_law_ 1195 = .ok (.iaload, 1) := by decide +kernel
theorem dL_law__1196 : decode cL_law_ 1196 = .ok (.aload_n 0, 1) := by decide +kernel
theorem dL_law__1197 : decode cL_law_ 1197 = .ok (.iload 4, 2) := by decide +kernel
theorem dL_law__1199 : decode cL_law_ 1199 = .ok (.iconst 2, 1) := by decide +kernel
theorem dL_law__1200 : decode cL_law_ 1200 = .ok (.iadd, 1) := by decide +kernel
theorem dL_law__1201 : decode cL_law_ 1201 = .ok (.iaload, 1) := by decide +kernel
theorem dL_law__1202 : decode cL_law_ 1202 = .ok (.invokevirtual 192, 3) := by decide +kernel
theorem dL_law__1205 : decode cL_law_ 1205 = .ok (.istore 6, 2) := by decide +kernel
theorem dL_law__1207 : decode cL_law_ 1207 = .ok (.aload_n 2, 1) := by decide +kernel
theorem dL_law__1208 : decode cL_law_ 1208 = .ok (.invokevirtual 130, 3) := by decide +kernel
theorem dL_law__1211 : decode cL_law_ 1211 = .ok (.iload 5, 2) := by decide +kernel
theorem dL_law__1213 : decode cL_law_ 1213 = .ok (.if_icmp .eq 5, 3) := by decide +kernel
theorem dL_law__1216 : decode cL_law_ 1216 = .ok (.iconst 0, 1) := by decide +kernel
theorem dL_law__1217 : decode cL_law_ 1217 = .ok (.ireturn, 1) := by decide +kernel
theorem dL_law__1218 : decode cL_law_ 1218 = .ok (.iload 5, 2) := by decide +kernel
theorem dL_law__1220 : decode cL_law_ 1220 = .ok (.ifCond .ne 15, 3) := by decide +kernel
theorem dL_law__1223 : decode cL_law_ 1223 = .ok (.aload_n 3, 1) := by decide +kernel
theorem dL_law__1224 : decode cL_law_ 1224 = .ok (.iconst 0, 1) := by decide +kernel
theorem dL_law__1225 : decode cL_law_ 1225 = .ok (.laload, 1) := by decide +kernel
theorem dL_law__1226 : decode cL_law_ 1226 = .ok (.iload 6, 2) := by decide +kernel
theorem dL_law__1228 : decode cL_law_ 1228 = .ok (.i2l, 1) := by decide +kernel
theorem dL_law__1229 : decode cL_law_ 1229 = .ok (.lcmp, 1) := by decide +kernel
theorem dL_law__1230 : decode cL_law_ 1230 = .ok (.ifCond .eq 5, 3) := by decide +kernel
theorem dL_law__1233 : decode cL_law_ 1233 = .ok (.iconst 0, 1) := by decide +kernel
theorem dL_law__1234 : decode cL_law_ 1234 = .ok (.ireturn, 1) := by decide +kernel
theorem dL_law__1235 : decode cL_law_ 1235 = .ok (.goto 1248, 3) := by decide +kernel
theorem dL_law__1238 : decode cL_law_ 1238 = .ok (.aload_n 1, 1) := by decide +kernel
theorem dL_law__1239 : decode cL_law_ 1239 = .ok (.aload_n 0, 1) := by decide +kernel
theorem dL_law__1240 : decode cL_law_ 1240 = .ok (.iload 4, 2) := by decide +kernel
theorem dL_law__1242 : decode cL_law_ 1242 = .ok (.iconst 1, 1) := by decide +kernel
theorem dL_law__1243 : decode cL_law_ 1243 = .ok (.iadd, 1) := by decide +kernel
theorem dL_law__1244 : decode cL_law_ 1244 = .ok (.iaload, 1) := by decide +kernel
theorem dL_law__1245 : decode cL_law_ 1245 = .ok (.aload_n 0, 1) := by decide +kernel
theorem dL_law__1246 : decode cL_law_ 1246 = .ok (.iload 4, 2) := by decide +kernel
theorem dL_law__1248 : decode cL_law_ 1248 = .ok (.iconst 2, 1) := by decide +kernel
theorem dL_law__1249 : decode cL_law_ 1249 = .ok (.iadd, 1) := by decide +kernel
theorem dL_law__1250 : decode cL_law_ 1250 = .ok (.iaload, 1) := by decide +kernel
theorem dL_law__1251 : decode cL_law_ 1251 = .ok (.aload_n 0, 1) := by decide +kernel
theorem dL_law__1252 : decode cL_law_ 1252 = .ok (.iload 4, 2) := by decide +kernel
theorem dL_law__1254 : decode cL_law_ 1254 = .ok (.iconst 3, 1) := by decide +kernel
theorem dL_law__1255 : decode cL_law_ 1255 = .ok (.iadd, 1) := by decide +kernel
theorem dL_law__1256 : decode cL_law_ 1256 = .ok (.iaload, 1) := by decide +kernel
theorem dL_law__1257 : decode cL_law_ 1257 = .ok (.ifCond .eq 7, 3) := by decide +kernel
theorem dL_law__1260 : decode cL_law_ 1260 = .ok (.iconst 1, 1) := by decide +kernel
theorem dL_law__1261 : decode cL_law_ 1261 = .ok (.goto 4, 3) := by decide +kernel
theorem dL_law__1264 : decode cL_law_ 1264 = .ok (.iconst 0, 1) := by decide +kernel
theorem dL_law__1265 : decode cL_law_ 1265 = .ok (.aload_n 3, 1) := by decide +kernel
theorem dL_law__1266 : decode cL_law_ 1266 = .ok (.invokestatic 193, 3) := by decide +kernel
theorem dL_law__1269 : decode cL_law_ 1269 = .ok (.istore 5, 2) := by decide +kernel
theorem dL_law__1271 : decode cL_law_ 1271 = .ok (.aload_n 2, 1) := by decide +kernel
theorem dL_law__1272 : decode cL_law_ 1272 = .ok (.aload_n 0, 1) := by decide +kernel
theorem dL_law__1273 : decode cL_law_ 1273 = .ok (.iload 4, 2) := by decide +kernel
theorem dL_law__1275 : decode cL_law_ 1275 = .ok (.iconst 1, 1) := by decide +kernel
theorem dL_law__1276 : decode cL_law_ 1276 = .ok (.iadd, 1) := by decide +kernel
theorem dL_law__1277 : decode cL_law_ 1277 = .ok (.iaload, 1) := by decide +kernel
theorem dL_law__1278 : decode cL_law_ 1278 = .ok (.aload_n 0, 1) := by decide +kernel
theorem dL_law__1279 : decode cL_law_ 1279 = .ok (.iload 4, 2) := by decide +kernel
theorem dL_law__1281 : decode cL_law_ 1281 = .ok (.iconst 2, 1) := by decide +kernel
theorem dL_law__1282 : decode cL_law_ 1282 = .ok (.iadd, 1) := by decide +kernel
theorem dL_law__1283 : decode cL_law_ 1283 = .ok (.iaload, 1) := by decide +kernel
theorem dL_law__1284 : decode cL_law_ 1284 = .ok (.aload_n 0, 1) := by decide +kernel
theorem dL_law__1285 : decode cL_law_ 1285 = .ok (.iload 4, 2) := by decide +kernel
theorem dL_law__1287 : decode cL_law_ 1287 = .ok (.iconst 3, 1) := by decide +kernel
theorem dL_law__1288 : decode cL_law_ 1288 = .ok (.iadd, 1) := by decide +kernel
theorem dL_law__1289 : decode cL_law_ 1289 = .ok (.iaload, 1) := by decide +kernel
theorem dL_law__1290 : decode cL_law_ 1290 = .ok (.ifCond .eq 7, 3) := by decide +kernel
theorem dL_law__1293 : decode cL_law_ 1293 = .ok (.iconst 1, 1) := by decide +kernel
theorem dL_law__1294 : decode cL_law_ 1294 = .ok (.goto 4, 3) := by decide +kernel
theorem dL_law__1297 : decode cL_law_ 1297 = .ok (.iconst 0, 1) := by decide +kernel
theorem dL_law__1298 : decode cL_law_ 1298 = .ok (.invokevirtual 196, 3) := by decide +kernel
theorem dL_law__1301 : decode cL_law_ 1301 = .ok (.istore 6, 2) := by decide +kernel
theorem dL_law__1303 : decode cL_law_ 1303 = .ok (.aload_n 2, 1) := by decide +kernel
theorem dL_law__1304 : decode cL_law_ 1304 = .ok (.invokevirtual 130, 3) := by decide +kernel
theorem dL_law__1307 : decode cL_law_ 1307 = .ok (.iload 5, 2) := by decide +kernel
theorem dL_law__1309 : decode cL_law_ 1309 = .ok (.if_icmp .eq 5, 3) := by decide +kernel
theorem dL_law__1312 : decode cL_law_ 1312 = .ok (.iconst 0, 1) := by decide +kernel
theorem dL_law__1313 : decode cL_law_ 1313 = .ok (.ireturn, 1) := by decide +kernel
theorem dL_law__1314 : decode cL_law_ 1314 = .ok (.iload 5, 2) := by decide +kernel
theorem dL_law__1316 : decode cL_law_ 1316 = .ok (.ifCond .ne 15, 3) := by decide +kernel
theorem dL_law__1319 : decode cL_law_ 1319 = .ok (.aload_n 3, 1) := by decide +kernel
theorem dL_law__1320 : decode cL_law_ 1320 = .ok (.iconst 0, 1) := by decide +kernel
theorem dL_law__1321 : decode cL_law_ 1321 = .ok (.laload, 1) := by decide +kernel
theorem dL_law__1322 : decode cL_law_ 1322 = .ok (.iload 6, 2) := by decide +kernel
theorem dL_law__1324 : decode cL_law_ 1324 = .ok (.i2l, 1) := by decide +kernel
theorem dL_law__1325 : decode cL_law_ 1325 = .ok (.lcmp, 1) := by decide +kernel
theorem dL_law__1326 : decode cL_law_ 1326 = .ok (.ifCond .eq 5, 3) := by decide +kernel
theorem dL_law__1329 : decode cL_law_ 1329 = .ok (.iconst 0, 1) := by decide +kernel
theorem dL_law__1330 : decode cL_law_ 1330 = .ok (.ireturn, 1) := by decide +kernel
theorem dL_law__1331 : decode cL_law_ 1331 = .ok (.goto 1152, 3) := by decide +kernel
theorem dL_law__1334 : decode cL_law_ 1334 = .ok (.aload_n 1, 1) := by decide +kernel
theorem dL_law__1335 : decode cL_law_ 1335 = .ok (.aload_n 0, 1) := by decide +kernel
theorem dL_law__1336 : decode cL_law_ 1336 = .ok (.iload 4, 2) := by decide +kernel
theorem dL_law__1338 : decode cL_law_ 1338 = .ok (.iconst 1, 1) := by decide +kernel
theorem dL_law__1339 : decode cL_law_ 1339 = .ok (.iadd, 1) := by decide +kernel
theorem dL_law__1340 : decode cL_law_ 1340 = .ok (.iaload, 1) := by decide +kernel
theorem dL_law__1341 : decode cL_law_ 1341 = .ok (.aload_n 3, 1) := by decide +kernel
theorem dL_law__1342 : decode cL_law_ 1342 = .ok (.invokestatic 197, 3) := by decide +kernel
theorem dL_law__1345 : decode cL_law_ 1345 = .ok (.istore 5, 2) := by decide +kernel
theorem dL_law__1347 : decode cL_law_ 1347 = .ok (.aload_n 2, 1) := by decide +kernel
theorem dL_law__1348 : decode cL_law_ 1348 = .ok (.aload_n 0, 1) := by decide +kernel
theorem dL_law__1349 : decode cL_law_ 1349 = .ok (.iload 4, 2) := by decide +kernel
theorem dL_law__1351 : decode cL_law_ 1351 = .ok (.iconst 1, 1) := by decide +kernel
theorem dL_law__1352 : decode cL_law_ 1352 = .ok (.iadd, 1) := by decide +kernel
theorem dL_law__1353 : decode cL_law_ 1353 = .ok (.iaload, 1) := by decide +kernel
theorem dL_law__1354 : decode cL_law_ 1354 = .ok (.invokevirtual 199, 3) := by decide +kernel
theorem dL_law__1357 : decode cL_law_ 1357 = .ok (.istore 6, 2) := by decide +kernel
theorem dL_law__1359 : decode cL_law_ 1359 = .ok (.aload_n 2, 1) := by decide +kernel
theorem dL_law__1360 : decode cL_law_ 1360 = .ok (.invokevirtual 130, 3) := by decide +kernel
theorem dL_law__1363 : decode cL_law_ 1363 = .ok (.iload 5, 2) := by decide +kernel
theorem dL_law__1365 : decode cL_law_ 1365 = .ok (.if_icmp .eq 5, 3) := by decide +kernel
theorem dL_law__1368 : decode cL_law_ 1368 = .ok (.iconst 0, 1) := by decide +kernel
theorem dL_law__1369 : decode cL_law_ 1369 = .ok (.ireturn, 1) := by decide +kernel
theorem dL_law__1370 : decode cL_law_ 1370 = .ok (.iload 5, 2) := by decide +kernel
theorem dL_law__1372 : decode cL_law_ 1372 = .ok (.ifCond .ne 15, 3) := by decide +kernel
theorem dL_law__1375 : decode cL_law_ 1375 = .ok (.aload_n 3, 1) := by decide +kernel
theorem dL_law__1376 : decode cL_law_ 1376 = .ok (.iconst 0, 1) := by decide +kernel
theorem dL_law__1377 : decode cL_law_ 1377 = .ok (.laload, 1) := by decide +kernel
theorem dL_law__1378 : decode cL_law_ 1378 = .ok (.iload 6, 2) := by decide +kernel
theorem dL_law__1380 : decode cL_law_ 1380 = .ok (.i2l, 1) := by decide +kernel
theorem dL_law__1381 : decode cL_law_ 1381 = .ok (.lcmp, 1) := by decide +kernel
theorem dL_law__1382 : decode cL_law_ 1382 = .ok (.ifCond .eq 5, 3) := by decide +kernel
theorem dL_law__1385 : decode cL_law_ 1385 = .ok (.iconst 0, 1) := by decide +kernel
theorem dL_law__1386 : decode cL_law_ 1386 = .ok (.ireturn, 1) := by decide +kernel
theorem dL_law__1387 : decode cL_law_ 1387 = .ok (.goto 1096, 3) := by decide +kernel
theorem dL_law__1390 : decode cL_law_ 1390 = .ok (.aload_n 1, 1) := by decide +kernel
theorem dL_law__1391 : decode cL_law_ 1391 = .ok (.aload_n 0, 1) := by decide +kernel
theorem dL_law__1392 : decode cL_law_ 1392 = .ok (.iload 4, 2) := by decide +kernel
theorem dL_law__1394 : decode cL_law_ 1394 = .ok (.iconst 1, 1) := by decide +kernel
theorem dL_law__1395 : decode cL_law_ 1395 = .ok (.iadd, 1) := by decide +kernel
theorem dL_law__1396 : decode cL_law_ 1396 = .ok (.iaload, 1) := by decide +kernel
theorem dL_law__1397 : decode cL_law_ 1397 = .ok (.aload_n 3, 1) := by decide +kernel
theorem dL_law__1398 : decode cL_law_ 1398 = .ok (.invokestatic 200, 3) := by decide +kernel
theorem dL_law__1401 : decode cL_law_ 1401 = .ok (.istore 5, 2) := by decide +kernel
theorem dL_law__1403 : decode cL_law_ 1403 = .ok (.aload_n 2, 1) := by decide +kernel
theorem dL_law__1404 : decode cL_law_ 1404 = .ok (.aload_n 0, 1) := by decide +kernel
theorem dL_law__1405 : decode cL_law_ 1405 = .ok (.iload 4, 2) := by decide +kernel
theorem dL_law__1407 : decode cL_law_ 1407 = .ok (.iconst 1, 1) := by decide +kernel
theorem dL_law__1408 : decode cL_law_ 1408 = .ok (.iadd, 1) := by decide +kernel
theorem dL_law__1409 : decode cL_law_ 1409 = .ok (.iaload, 1) := by decide +kernel
theorem dL_law__1410 : decode cL_law_ 1410 = .ok (.invokevirtual 202, 3) := by decide +kernel
theorem dL_law__1413 : decode cL_law_ 1413 = .ok (.istore 6, 2) := by decide +kernel
theorem dL_law__1415 : decode cL_law_ 1415 = .ok (.aload_n 2, 1) := by decide +kernel
theorem dL_law__1416 : decode cL_law_ 1416 = .ok (.invokevirtual 130, 3) := by decide +kernel
theorem dL_law__1419 : decode cL_law_ 1419 = .ok (.iload 5, 2) := by decide +kernel
theorem dL_law__1421 : decode cL_law_ 1421 = .ok (.if_icmp .eq 5, 3) := by decide +kernel
theorem dL_law__1424 : decode cL_law_ 1424 = .ok (.iconst 0, 1) := by decide +kernel
theorem dL_law__1425 : decode cL_law_ 1425 = .ok (.ireturn, 1) := by decide +kernel
theorem dL_law__1426 : decode cL_law_ 1426 = .ok (.iload 5, 2) := by decide +kernel
theorem dL_law__1428 : decode cL_law_ 1428 = .ok (.ifCond .ne 15, 3) := by decide +kernel
theorem dL_law__1431 : decode cL_law_ 1431 = .ok (.aload_n 3, 1) := by decide +kernel
theorem dL_law__1432 : decode cL_law_ 1432 = .ok (.iconst 0, 1) := by decide +kernel
theorem dL_law__1433 : decode cL_law_ 1433 = .ok (.laload, 1) := by decide +kernel
theorem dL_law__1434 : decode cL_law_ 1434 = .ok (.iload 6, 2) := by decide +kernel
theorem dL_law__1436 : decode cL_law_ 1436 = .ok (.i2l, 1) := by decide +kernel
theorem dL_law__1437 : decode cL_law_ 1437 = .ok (.lcmp, 1) := by decide +kernel
theorem dL_law__1438 : decode cL_law_ 1438 = .ok (.ifCond .eq 5, 3) := by decide +kernel
theorem dL_law__1441 : decode cL_law_ 1441 = .ok (.iconst 0, 1) := by decide +kernel
theorem dL_law__1442 : decode cL_law_ 1442 = .ok (.ireturn, 1) := by decide +kernel
theorem dL_law__1443 : decode cL_law_ 1443 = .ok (.goto 1040, 3) := by decide +kernel
theorem dL_law__1446 : decode cL_law_ 1446 = .ok (.aload_n 1, 1) := by decide +kernel
theorem dL_law__1447 : decode cL_law_ 1447 = .ok (.invokevirtual 203, 3) := by decide +kernel
theorem dL_law__1450 : decode cL_law_ 1450 = .ok (.aload_n 2, 1) := by decide +kernel
theorem dL_law__1451 : decode cL_law_ 1451 = .ok (.invokevirtual 206, 3) := by decide +kernel
theorem dL_law__1454 : decode cL_law_ 1454 = .ok (.if_icmp .eq 1029, 3) := by decide +kernel
theorem dL_law__1457 : decode cL_law_ 1457 = .ok (.iconst 0, 1) := by decide +kernel
theorem dL_law__1458 : decode cL_law_ 1458 = .ok (.ireturn, 1) := by decide +kernel
theorem dL_law__1459 : decode cL_law_ 1459 = .ok (.aload_n 1, 1) := by decide +kernel
theorem dL_law__1460 : decode cL_law_ 1460 = .ok (.aload_n 0, 1) := by decide +kernel
theorem dL_law__1461 : decode cL_law_ 1461 = .ok (.iload 4, 2) := by decide +kernel
theorem dL_law__1463 : decode cL_law_ 1463 = .ok (.iconst 1, 1) := by decide +kernel
theorem dL_law__1464 : decode cL_law_ 1464 = .ok (.iadd, 1) := by decide +kernel
theorem dL_law__1465 : decode cL_law_ 1465 = .ok (.iaload, 1) := by decide +kernel
theorem dL_law__1466 : decode cL_law_ 1466 = .ok (.aload_n 0, 1) := by decide +kernel
theorem dL_law__1467 : decode cL_law_ 1467 = .ok (.iload 4, 2) := by decide +kernel
theorem dL_law__1469 : decode cL_law_ 1469 = .ok (.iconst 2, 1) := by decide +kernel
theorem dL_law__1470 : decode cL_law_ 1470 = .ok (.iadd, 1) := by decide +kernel
theorem dL_law__1471 : decode cL_law_ 1471 = .ok (.iaload, 1) := by decide +kernel
theorem dL_law__1472 : decode cL_law_ 1472 = .ok (.aload_n 3, 1) := by decide +kernel
theorem dL_law__1473 : decode cL_law_ 1473 = .ok (.invokestatic 207, 3) := by decide +kernel
theorem dL_law__1476 : decode cL_law_ 1476 = .ok (.istore 5, 2) := by decide +kernel
theorem dL_law__1478 : decode cL_law_ 1478 = .ok (.aload_n 2, 1) := by decide +kernel
theorem dL_law__1479 : decode cL_law_ 1479 = .ok (.aload_n 0, 1) := by decide +kernel
theorem dL_law__1480 : decode cL_law_ 1480 = .ok (.iload 4, 2) := by decide +kernel
theorem dL_law__1482 : decode cL_law_ 1482 = .ok (.iconst 1, 1) := by decide +kernel
theorem dL_law__1483 : decode cL_law_ 1483 = .ok (.iadd, 1) := by decide +kernel
theorem dL_law__1484 : decode cL_law_ 1484 = .ok (.iaload, 1) := by decide +kernel
theorem dL_law__1485 : decode cL_law_ 1485 = .ok (.aload_n 0, 1) := by decide +kernel
theorem dL_law__1486 : decode cL_law_ 1486 = .ok (.iload 4, 2) := by decide +kernel
theorem dL_law__1488 : decode cL_law_ 1488 = .ok (.iconst 2, 1) := by decide +kernel
theorem dL_law__1489 : decode cL_law_ 1489 = .ok (.iadd, 1) := by decide +kernel
theorem dL_law__1490 : decode cL_law_ 1490 = .ok (.iaload, 1) := by decide +kernel
theorem dL_law__1491 : decode cL_law_ 1491 = .ok (.invokevirtual 209, 3) := by decide +kernel
theorem dL_law__1494 : decode cL_law_ 1494 = .ok (.istore 6, 2) := by decide +kernel
theorem dL_law__1496 : decode cL_law_ 1496 = .ok (.aload_n 2, 1) := by decide +kernel
theorem dL_law__1497 : decode cL_law_ 1497 = .ok (.invokevirtual 130, 3) := by decide +kernel
theorem dL_law__1500 : decode cL_law_ 1500 = .ok (.iload 5, 2) := by decide +kernel
theorem dL_law__1502 : decode cL_law_ 1502 = .ok (.if_icmp .eq 5, 3) := by decide +kernel
theorem dL_law__1505 : decode cL_law_ 1505 = .ok (.iconst 0, 1) := by decide +kernel
theorem dL_law__1506 : decode cL_law_ 1506 = .ok (.ireturn, 1) := by decide +kernel
theorem dL_law__1507 : decode cL_law_ 1507 = .ok (.iload 5, 2) := by decide +kernel
theorem dL_law__1509 : decode cL_law_ 1509 = .ok (.ifCond .ne 15, 3) := by decide +kernel
theorem dL_law__1512 : decode cL_law_ 1512 = .ok (.aload_n 3, 1) := by decide +kernel
theorem dL_law__1513 : decode cL_law_ 1513 = .ok (.iconst 0, 1) := by decide +kernel
theorem dL_law__1514 : decode cL_law_ 1514 = .ok (.laload, 1) := by decide +kernel
theorem dL_law__1515 : decode cL_law_ 1515 = .ok (.iload 6, 2) := by decide +kernel
theorem dL_law__1517 : decode cL_law_ 1517 = .ok (.i2l, 1) := by decide +kernel
theorem dL_law__1518 : decode cL_law_ 1518 = .ok (.lcmp, 1) := by decide +kernel
theorem dL_law__1519 : decode cL_law_ 1519 = .ok (.ifCond .eq 5, 3) := by decide +kernel
theorem dL_law__1522 : decode cL_law_ 1522 = .ok (.iconst 0, 1) := by decide +kernel
theorem dL_law__1523 : decode cL_law_ 1523 = .ok (.ireturn, 1) := by decide +kernel
theorem dL_law__1524 : decode cL_law_ 1524 = .ok (.goto 959, 3) := by decide +kernel
theorem dL_law__1527 : decode cL_law_ 1527 = .ok (.aload_n 1, 1) := by decide +kernel
theorem dL_law__1528 : decode cL_law_ 1528 = .ok (.aload_n 0, 1) := by decide +kernel
theorem dL_law__1529 : decode cL_law_ 1529 = .ok (.iload 4, 2) := by decide +kernel
theorem dL_law__1531 : decode cL_law_ 1531 = .ok (.iconst 1, 1) := by decide +kernel
theorem dL_law__1532 : decode cL_law_ 1532 = .ok (.iadd, 1) := by decide +kernel
theorem dL_law__1533 : decode cL_law_ 1533 = .ok (.iaload, 1) := by decide +kernel
theorem dL_law__1534 : decode cL_law_ 1534 = .ok (.aload_n 0, 1) := by decide +kernel
theorem dL_law__1535 : decode cL_law_ 1535 = .ok (.iload 4, 2) := by decide +kernel
theorem dL_law__1537 : decode cL_law_ 1537 = .ok (.iconst 2, 1) := by decide +kernel
theorem dL_law__1538 : decode cL_law_ 1538 = .ok (.iadd, 1) := by decide +kernel
theorem dL_law__1539 : decode cL_law_ 1539 = .ok (.iaload, 1) := by decide +kernel
theorem dL_law__1540 : decode cL_law_ 1540 = .ok (.ifCond .eq 7, 3) := by decide +kernel
theorem dL_law__1543 : decode cL_law_ 1543 = .ok (.iconst 1, 1) := by decide +kernel
theorem dL_law__1544 : decode cL_law_ 1544 = .ok (.goto 4, 3) := by decide +kernel
theorem dL_law__1547 : decode cL_law_ 1547 = .ok (.iconst 0, 1) := by decide +kernel
theorem dL_law__1548 : decode cL_law_ 1548 = .ok (.aload_n 3, 1) := by decide +kernel
theorem dL_law__1549 : decode cL_law_ 1549 = .ok (.invokestatic 210, 3) := by decide +kernel
theorem dL_law__1552 : decode cL_law_ 1552 = .ok (.istore 5, 2) := by decide +kernel
theorem dL_law__1554 : decode cL_law_ 1554 = .ok (.aload_n 2, 1) := by decide +kernel
theorem dL_law__1555 : decode cL_law_ 1555 = .ok (.aload_n 0, 1) := by decide +kernel
theorem dL_law__1556 : decode cL_law_ 1556 = .ok (.iload 4, 2) := by decide +kernel
theorem dL_law__1558 : decode cL_law_ 1558 = .ok (.iconst 1, 1) := by decide +kernel
theorem dL_law__1559 : decode cL_law_ 1559 = .ok (.iadd, 1) := by decide +kernel
theorem dL_law__1560 : decode cL_law_ 1560 = .ok (.iaload, 1) := by decide +kernel
theorem dL_law__1561 : decode cL_law_ 1561 = .ok (.aload_n 0, 1) := by decide +kernel
theorem dL_law__1562 : decode cL_law_ 1562 = .ok (.iload 4, 2) := by decide +kernel
theorem dL_law__1564 : decode cL_law_ 1564 = .ok (.iconst 2, 1) := by decide +kernel
theorem dL_law__1565 : decode cL_law_ 1565 = .ok (.iadd, 1) := by decide +kernel
theorem dL_law__1566 : decode cL_law_ 1566 = .ok (.iaload, 1) := by decide +kernel
theorem dL_law__1567 : decode cL_law_ 1567 = .ok (.ifCond .eq 7, 3) := by decide +kernel
theorem dL_law__1570 : decode cL_law_ 1570 = .ok (.iconst 1, 1) := by decide +kernel
theorem dL_law__1571 : decode cL_law_ 1571 = .ok (.goto 4, 3) := by decide +kernel
theorem dL_law__1574 : decode cL_law_ 1574 = .ok (.iconst 0, 1) := by decide +kernel
theorem dL_law__1575 : decode cL_law_ 1575 = .ok (.invokevirtual 212, 3) := by decide +kernel
theorem dL_law__1578 : decode cL_law_ 1578 = .ok (.istore 6, 2) := by decide +kernel
theorem dL_law__1580 : decode cL_law_ 1580 = .ok (.aload_n 2, 1) := by decide +kernel
theorem dL_law__1581 : decode cL_law_ 1581 = .ok (.invokevirtual 130, 3) := by decide +kernel
theorem dL_law__1584 : decode cL_law_ 1584 = .ok (.iload 5, 2) := by decide +kernel
theorem dL_law__1586 : decode cL_law_ 1586 = .ok (.if_icmp .eq 5, 3) := by decide +kernel
theorem dL_law__1589 : decode cL_law_ 1589 = .ok (.iconst 0, 1) := by decide +kernel
theorem dL_law__1590 : decode cL_law_ 1590 = .ok (.ireturn, 1) := by decide +kernel
theorem dL_law__1591 : decode cL_law_ 1591 = .ok (.iload 5, 2) := by decide +kernel
theorem dL_law__1593 : decode cL_law_ 1593 = .ok (.ifCond .ne 15, 3) := by decide +kernel
theorem dL_law__1596 : decode cL_law_ 1596 = .ok (.aload_n 3, 1) := by decide +kernel
theorem dL_law__1597 : decode cL_law_ 1597 = .ok (.iconst 0, 1) := by decide +kernel
theorem dL_law__1598 : decode cL_law_ 1598 = .ok (.laload, 1) := by decide +kernel
theorem dL_law__1599 : decode cL_law_ 1599 = .ok (.iload 6, 2) := by decide +kernel
theorem dL_law__1601 : decode cL_law_ 1601 = .ok (.i2l, 1) := by decide +kernel
theorem dL_law__1602 : decode cL_law_ 1602 = .ok (.lcmp, 1) := by decide +kernel
theorem dL_law__1603 : decode cL_law_ 1603 = .ok (.ifCond .eq 5, 3) := by decide +kernel
theorem dL_law__1606 : decode cL_law_ 1606 = .ok (.iconst 0, 1) := by decide +kernel
theorem dL_law__1607 : decode cL_law_ 1607 = .ok (.ireturn, 1) := by decide +kernel
theorem dL_law__1608 : decode cL_law_ 1608 = .ok (.goto 875, 3) := by decide +kernel
theorem dL_law__1611 : decode cL_law_ 1611 = .ok (.aload_n 1, 1) := by decide +kernel
theorem dL_law__1612 : decode cL_law_ 1612 = .ok (.aload_n 0, 1) := by decide +kernel
theorem dL_law__1613 : decode cL_law_ 1613 = .ok (.iload 4, 2) := by decide +kernel
theorem dL_law__1615 : decode cL_law_ 1615 = .ok (.iconst 1, 1) := by decide +kernel
theorem dL_law__1616 : decode cL_law_ 1616 = .ok (.iadd, 1) := by decide +kernel
theorem dL_law__1617 : decode cL_law_ 1617 = .ok (.iaload, 1) := by decide +kernel
theorem dL_law__1618 : decode cL_law_ 1618 = .ok (.aload_n 3, 1) := by decide +kernel
theorem dL_law__1619 : decode cL_law_ 1619 = .ok (.invokestatic 213, 3) := by decide +kernel
theorem dL_law__1622 : decode cL_law_ 1622 = .ok (.istore 5, 2) := by decide +kernel
theorem dL_law__1624 : decode cL_law_ 1624 = .ok (.aload_n 2, 1) := by decide +kernel
theorem dL_law__1625 : decode cL_law_ 1625 = .ok (.aload_n 0, 1) := by decide +kernel
theorem dL_law__1626 : decode cL_law_ 1626 = .ok (.iload 4, 2) := by decide +kernel
theorem dL_law__1628 : decode cL_law_ 1628 = .ok (.iconst 1, 1) := by decide +kernel
theorem dL_law__1629 : decode cL_law_ 1629 = .ok (.iadd, 1) := by decide +kernel
theorem dL_law__1630 : decode cL_law_ 1630 = .ok (.iaload, 1) := by decide +kernel
theorem dL_law__1631 : decode cL_law_ 1631 = .ok (.invokevirtual 215, 3) := by decide +kernel
theorem dL_law__1634 : decode cL_law_ 1634 = .ok (.istore 6, 2) := by decide +kernel
theorem dL_law__1636 : decode cL_law_ 1636 = .ok (.aload_n 2, 1) := by decide +kernel
theorem dL_law__1637 : decode cL_law_ 1637 = .ok (.invokevirtual 130, 3) := by decide +kernel
theorem dL_law__1640 : decode cL_law_ 1640 = .ok (.iload 5, 2) := by decide +kernel
theorem dL_law__1642 : decode cL_law_ 1642 = .ok (.if_icmp .eq 5, 3) := by decide +kernel
theorem dL_law__1645 : decode cL_law_ 1645 = .ok (.iconst 0, 1) := by decide +kernel
theorem dL_law__1646 : decode cL_law_ 1646 = .ok (.ireturn, 1) := by decide +kernel
theorem dL_law__1647 : decode cL_law_ 1647 = .ok (.iload 5, 2) := by decide +kernel
theorem dL_law__1649 : decode cL_law_ 1649 = .ok (.ifCond .ne 15, 3) := by decide +kernel
theorem dL_law__1652 : decode cL_law_ 1652 = .ok (.aload_n 3, 1) := by decide +kernel
theorem dL_law__1653 : decode cL_law_ 1653 = .ok (.iconst 0, 1) := by decide +kernel
theorem dL_law__1654 : decode cL_law_ 1654 = .ok (.laload, 1) := by decide +kernel
theorem dL_law__1655 : decode cL_law_ 1655 = .ok (.iload 6, 2) := by decide +kernel
theorem dL_law__1657 : decode cL_law_ 1657 = .ok (.i2l, 1) := by decide +kernel
theorem dL_law__1658 : decode cL_law_ 1658 = .ok (.lcmp, 1) := by decide +kernel
theorem dL_law__1659 : decode cL_law_ 1659 = .ok (.ifCond .eq 5, 3) := by decide +kernel
theorem dL_law__1662 : decode cL_law_ 1662 = .ok (.iconst 0, 1) := by decide +kernel
theorem dL_law__1663 : decode cL_law_ 1663 = .ok (.ireturn, 1) := by decide +kernel
theorem dL_law__1664 : decode cL_law_ 1664 = .ok (.goto 819, 3) := by decide +kernel
theorem dL_law__1667 : decode cL_law_ 1667 = .ok (.aload_n 1, 1) := by decide +kernel
theorem dL_law__1668 : decode cL_law_ 1668 = .ok (.aload_n 0, 1) := by decide +kernel
theorem dL_law__1669 : decode cL_law_ 1669 = .ok (.iload 4, 2) := by decide +kernel
theorem dL_law__1671 : decode cL_law_ 1671 = .ok (.iconst 1, 1) := by decide +kernel
theorem dL_law__1672 : decode cL_law_ 1672 = .ok (.iadd, 1) := by decide +kernel
theorem dL_law__1673 : decode cL_law_ 1673 = .ok (.iaload, 1) := by decide +kernel
theorem dL_law__1674 : decode cL_law_ 1674 = .ok (.aload_n 3, 1) := by decide +kernel
theorem dL_law__1675 : decode cL_law_ 1675 = .ok (.invokestatic 216, 3) := by decide +kernel
theorem dL_law__1678 : decode cL_law_ 1678 = .ok (.istore 5, 2) := by decide +kernel
theorem dL_law__1680 : decode cL_law_ 1680 = .ok (.aload_n 2, 1) := by decide +kernel
theorem dL_law__1681 : decode cL_law_ 1681 = .ok (.aload_n 0, 1) := by decide +kernel
theorem dL_law__1682 : decode cL_law_ 1682 = .ok (.iload 4, 2) := by decide +kernel
theorem dL_law__1684 : decode cL_law_ 1684 = .ok (.iconst 1, 1) := by decide +kernel
theorem dL_law__1685 : decode cL_law_ 1685 = .ok (.iadd, 1) := by decide +kernel
theorem dL_law__1686 : decode cL_law_ 1686 = .ok (.iaload, 1) := by decide +kernel
theorem dL_law__1687 : decode cL_law_ 1687 = .ok (.invokevirtual 218, 3) := by decide +kernel
theorem dL_law__1690 : decode cL_law_ 1690 = .ok (.istore 6, 2) := by decide +kernel
theorem dL_law__1692 : decode cL_law_ 1692 = .ok (.aload_n 2, 1) := by decide +kernel
theorem dL_law__1693 : decode cL_law_ 1693 = .ok (.invokevirtual 130, 3) := by decide +kernel
theorem dL_law__1696 : decode cL_law_ 1696 = .ok (.iload 5, 2) := by decide +kernel
theorem dL_law__1698 : decode cL_law_ 1698 = .ok (.if_icmp .eq 5, 3) := by decide +kernel
theorem dL_law__1701 : decode cL_law_ 1701 = .ok (.iconst 0, 1) := by decide +kernel
theorem dL_law__1702 : decode cL_law_ 1702 = .ok (.ireturn, 1) := by decide +kernel
theorem dL_law__1703 : decode cL_law_ 1703 = .ok (.iload 5, 2) := by decide +kernel
theorem dL_law__1705 : decode cL_law_ 1705 = .ok (.ifCond .ne 15, 3) := by decide +kernel
theorem dL_law__1708 : decode cL_law_ 1708 = .ok (.aload_n 3, 1) := by decide +kernel
theorem dL_law__1709 : decode cL_law_ 1709 = .ok (.iconst 0, 1) := by decide +kernel
theorem dL_law__1710 : decode cL_law_ 1710 = .ok (.laload, 1) := by decide +kernel
theorem dL_law__1711 : decode cL_law_ 1711 = .ok (.iload 6, 2) := by decide +kernel
theorem dL_law__1713 : decode cL_law_ 1713 = .ok (.i2l, 1) := by decide +kernel
theorem dL_law__1714 : decode cL_law_ 1714 = .ok (.lcmp, 1) := by decide +kernel
theorem dL_law__1715 : decode cL_law_ 1715 = .ok (.ifCond .eq 5, 3) := by decide +kernel
theorem dL_law__1718 : decode cL_law_ 1718 = .ok (.iconst 0, 1) := by decide +kernel
theorem dL_law__1719 : decode cL_law_ 1719 = .ok (.ireturn, 1) := by decide +kernel
theorem dL_law__1720 : decode cL_law_ 1720 = .ok (.goto 763, 3) := by decide +kernel
theorem dL_law__1723 : decode cL_law_ 1723 = .ok (.aload_n 1, 1) := by decide +kernel
theorem dL_law__1724 : decode cL_law_ 1724 = .ok (.invokevirtual 219, 3) := by decide +kernel
theorem dL_law__1727 : decode cL_law_ 1727 = .ok (.aload_n 2, 1) := by decide +kernel
theorem dL_law__1728 : decode cL_law_ 1728 = .ok (.invokevirtual 222, 3) := by decide +kernel
theorem dL_law__1731 : decode cL_law_ 1731 = .ok (.if_icmp .eq 752, 3) := by decide +kernel
theorem dL_law__1734 : decode cL_law_ 1734 = .ok (.iconst 0, 1) := by decide +kernel
theorem dL_law__1735 : decode cL_law_ 1735 = .ok (.ireturn, 1) := by decide +kernel
theorem dL_law__1736 : decode cL_law_ 1736 = .ok (.aload_n 1, 1) := by decide +kernel
theorem dL_law__1737 : decode cL_law_ 1737 = .ok (.aload_n 0, 1) := by decide +kernel
theorem dL_law__1738 : decode cL_law_ 1738 = .ok (.iload 4, 2) := by decide +kernel
theorem dL_law__1740 : decode cL_law_ 1740 = .ok (.iconst 1, 1) := by decide +kernel
theorem dL_law__1741 : decode cL_law_ 1741 = .ok (.iadd, 1) := by decide +kernel
theorem dL_law__1742 : decode cL_law_ 1742 = .ok (.iaload, 1) := by decide +kernel
theorem dL_law__1743 : decode cL_law_ 1743 = .ok (.aload_n 0, 1) := by decide +kernel
theorem dL_law__1744 : decode cL_law_ 1744 = .ok (.iload 4, 2) := by decide +kernel
theorem dL_law__1746 : decode cL_law_ 1746 = .ok (.iconst 2, 1) := by decide +kernel
theorem dL_law__1747 : decode cL_law_ 1747 = .ok (.iadd, 1) := by decide +kernel
theorem dL_law__1748 : decode cL_law_ 1748 = .ok (.iaload, 1) := by decide +kernel
theorem dL_law__1749 : decode cL_law_ 1749 = .ok (.aload_n 3, 1) := by decide +kernel
theorem dL_law__1750 : decode cL_law_ 1750 = .ok (.invokestatic 223, 3) := by decide +kernel
theorem dL_law__1753 : decode cL_law_ 1753 = .ok (.istore 5, 2) := by decide +kernel
theorem dL_law__1755 : decode cL_law_ 1755 = .ok (.aload_n 2, 1) := by decide +kernel
theorem dL_law__1756 : decode cL_law_ 1756 = .ok (.aload_n 0, 1) := by decide +kernel
theorem dL_law__1757 : decode cL_law_ 1757 = .ok (.iload 4, 2) := by decide +kernel
theorem dL_law__1759 : decode cL_law_ 1759 = .ok (.iconst 1, 1) := by decide +kernel
theorem dL_law__1760 : decode cL_law_ 1760 = .ok (.iadd, 1) := by decide +kernel
theorem dL_law__1761 : decode cL_law_ 1761 = .ok (.iaload, 1) := by decide +kernel
theorem dL_law__1762 : decode cL_law_ 1762 = .ok (.aload_n 0, 1) := by decide +kernel
theorem dL_law__1763 : decode cL_law_ 1763 = .ok (.iload 4, 2) := by decide +kernel
theorem dL_law__1765 : decode cL_law_ 1765 = .ok (.iconst 2, 1) := by decide +kernel
theorem dL_law__1766 : decode cL_law_ 1766 = .ok (.iadd, 1) := by decide +kernel
theorem dL_law__1767 : decode cL_law_ 1767 = .ok (.iaload, 1) := by decide +kernel
theorem dL_law__1768 : decode cL_law_ 1768 = .ok (.invokevirtual 225, 3) := by decide +kernel
theorem dL_law__1771 : decode cL_law_ 1771 = .ok (.istore 6, 2) := by decide +kernel
theorem dL_law__1773 : decode cL_law_ 1773 = .ok (.aload_n 2, 1) := by decide +kernel
theorem dL_law__1774 : decode cL_law_ 1774 = .ok (.invokevirtual 130, 3) := by decide +kernel
theorem dL_law__1777 : decode cL_law_ 1777 = .ok (.iload 5, 2) := by decide +kernel
theorem dL_law__1779 : decode cL_law_ 1779 = .ok (.if_icmp .eq 5, 3) := by decide +kernel
theorem dL_law__1782 : decode cL_law_ 1782 = .ok (.iconst 0, 1) := by decide +kernel
theorem dL_law__1783 : decode cL_law_ 1783 = .ok (.ireturn, 1) := by decide +kernel
theorem dL_law__1784 : decode cL_law_ 1784 = .ok (.iload 5, 2) := by decide +kernel
theorem dL_law__1786 : decode cL_law_ 1786 = .ok (.ifCond .ne 15, 3) := by decide +kernel
theorem dL_law__1789 : decode cL_law_ 1789 = .ok (.aload_n 3, 1) := by decide +kernel
theorem dL_law__1790 : decode cL_law_ 1790 = .ok (.iconst 0, 1) := by decide +kernel
theorem dL_law__1791 : decode cL_law_ 1791 = .ok (.laload, 1) := by decide +kernel
theorem dL_law__1792 : decode cL_law_ 1792 = .ok (.iload 6, 2) := by decide +kernel
theorem dL_law__1794 : decode cL_law_ 1794 = .ok (.i2l, 1) := by decide +kernel
theorem dL_law__1795 : decode cL_law_ 1795 = .ok (.lcmp, 1) := by decide +kernel
theorem dL_law__1796 : decode cL_law_ 1796 = .ok (.ifCond .eq 5, 3) := by decide +kernel
theorem dL_law__1799 : decode cL_law_ 1799 = .ok (.iconst 0, 1) := by decide +kernel
theorem dL_law__1800 : decode cL_law_ 1800 = .ok (.ireturn, 1) := by decide +kernel
theorem dL_law__1801 : decode cL_law_ 1801 = .ok (.goto 682, 3) := by decide +kernel
theorem dL_law__1804 : decode cL_law_ 1804 = .ok (.aload_n 1, 1) := by decide +kernel
theorem dL_law__1805 : decode cL_law_ 1805 = .ok (.aload_n 0, 1) := by decide +kernel
theorem dL_law__1806 : decode cL_law_ 1806 = .ok (.iload 4, 2) := by decide +kernel
theorem dL_law__1808 : decode cL_law_ 1808 = .ok (.iconst 1, 1) := by decide +kernel
theorem dL_law__1809 : decode cL_law_ 1809 = .ok (.iadd, 1) := by decide +kernel
theorem dL_law__1810 : decode cL_law_ 1810 = .ok (.iaload, 1) := by decide +kernel
theorem dL_law__1811 : decode cL_law_ 1811 = .ok (.aload_n 3, 1) := by decide +kernel
theorem dL_law__1812 : decode cL_law_ 1812 = .ok (.invokestatic 226, 3) := by decide +kernel
theorem dL_law__1815 : decode cL_law_ 1815 = .ok (.istore 5, 2) := by decide +kernel
theorem dL_law__1817 : decode cL_law_ 1817 = .ok (.aload_n 2, 1) := by decide +kernel
theorem dL_law__1818 : decode cL_law_ 1818 = .ok (.aload_n 0, 1) := by decide +kernel
theorem dL_law__1819 : decode cL_law_ 1819 = .ok (.iload 4, 2) := by decide +kernel
theorem dL_law__1821 : decode cL_law_ 1821 = .ok (.iconst 1, 1) := by decide +kernel
theorem dL_law__1822 : decode cL_law_ 1822 = .ok (.iadd, 1) := by decide +kernel
theorem dL_law__1823 : decode cL_law_ 1823 = .ok (.iaload, 1) := by decide +kernel
theorem dL_law__1824 : decode cL_law_ 1824 = .ok (.invokevirtual 228, 3) := by decide +kernel
theorem dL_law__1827 : decode cL_law_ 1827 = .ok (.istore 6, 2) := by decide +kernel
theorem dL_law__1829 : decode cL_law_ 1829 = .ok (.aload_n 2, 1) := by decide +kernel
theorem dL_law__1830 : decode cL_law_ 1830 = .ok (.invokevirtual 130, 3) := by decide +kernel
theorem dL_law__1833 : decode cL_law_ 1833 = .ok (.iload 5, 2) := by decide +kernel
theorem dL_law__1835 : decode cL_law_ 1835 = .ok (.if_icmp .eq 5, 3) := by decide +kernel
theorem dL_law__1838 : decode cL_law_ 1838 = .ok (.iconst 0, 1) := by decide +kernel
theorem dL_law__1839 : decode cL_law_ 1839 = .ok (.ireturn, 1) := by decide +kernel
theorem dL_law__1840 : decode cL_law_ 1840 = .ok (.iload 5, 2) := by decide +kernel
theorem dL_law__1842 : decode cL_law_ 1842 = .ok (.ifCond .ne 15, 3) := by decide +kernel
theorem dL_law__1845 : decode cL_law_ 1845 = .ok (.aload_n 3, 1) := by decide +kernel
theorem dL_law__1846 : decode cL_law_ 1846 = .ok (.iconst 0, 1) := by decide +kernel
theorem dL_law__1847 : decode cL_law_ 1847 = .ok (.laload, 1) := by decide +kernel
theorem dL_law__1848 : decode cL_law_ 1848 = .ok (.iload 6, 2) := by decide +kernel
theorem dL_law__1850 : decode cL_law_ 1850 = .ok (.i2l, 1) := by decide +kernel
theorem dL_law__1851 : decode cL_law_ 1851 = .ok (.lcmp, 1) := by decide +kernel
theorem dL_law__1852 : decode cL_law_ 1852 = .ok (.ifCond .eq 5, 3) := by decide +kernel
theorem dL_law__1855 : decode cL_law_ 1855 = .ok (.iconst 0, 1) := by decide +kernel
theorem dL_law__1856 : decode cL_law_ 1856 = .ok (.ireturn, 1) := by decide +kernel
theorem dL_law__1857 : decode cL_law_ 1857 = .ok (.goto 626, 3) := by decide +kernel
theorem dL_law__1860 : decode cL_law_ 1860 = .ok (.aload_n 1, 1) := by decide +kernel
theorem dL_law__1861 : decode cL_law_ 1861 = .ok (.aload_n 0, 1) := by decide +kernel
theorem dL_law__1862 : decode cL_law_ 1862 = .ok (.iload 4, 2) := by decide +kernel
theorem dL_law__1864 : decode cL_law_ 1864 = .ok (.iconst 1, 1) := by decide +kernel
theorem dL_law__1865 : decode cL_law_ 1865 = .ok (.iadd, 1) := by decide +kernel
theorem dL_law__1866 : decode cL_law_ 1866 = .ok (.iaload, 1) := by decide +kernel
theorem dL_law__1867 : decode cL_law_ 1867 = .ok (.aload_n 0, 1) := by decide +kernel
theorem dL_law__1868 : decode cL_law_ 1868 = .ok (.iload 4, 2) := by decide +kernel
theorem dL_law__1870 : decode cL_law_ 1870 = .ok (.iconst 2, 1) := by decide +kernel
theorem dL_law__1871 : decode cL_law_ 1871 = .ok (.iadd, 1) := by decide +kernel
theorem dL_law__1872 : decode cL_law_ 1872 = .ok (.iaload, 1) := by decide +kernel
theorem dL_law__1873 : decode cL_law_ 1873 = .ok (.aload_n 3, 1) := by decide +kernel
theorem dL_law__1874 : decode cL_law_ 1874 = .ok (.invokestatic 229, 3) := by decide +kernel
theorem dL_law__1877 : decode cL_law_ 1877 = .ok (.istore 5, 2) := by decide +kernel
theorem dL_law__1879 : decode cL_law_ 1879 = .ok (.aload_n 2, 1) := by decide +kernel
theorem dL_law__1880 : decode cL_law_ 1880 = .ok (.aload_n 0, 1) := by decide +kernel
theorem dL_law__1881 : decode cL_law_ 1881 = .ok (.iload 4, 2) := by decide +kernel
theorem dL_law__1883 : decode cL_law_ 1883 = .ok (.iconst 1, 1) := by decide +kernel
theorem dL_law__1884 : decode cL_law_ 1884 = .ok (.iadd, 1) := by decide +kernel
theorem dL_law__1885 : decode cL_law_ 1885 = .ok (.iaload, 1) := by decide +kernel
theorem dL_law__1886 : decode cL_law_ 1886 = .ok (.aload_n 0, 1) := by decide +kernel
theorem dL_law__1887 : decode cL_law_ 1887 = .ok (.iload 4, 2) := by decide +kernel
theorem dL_law__1889 : decode cL_law_ 1889 = .ok (.iconst 2, 1) := by decide +kernel
theorem dL_law__1890 : decode cL_law_ 1890 = .ok (.iadd, 1) := by decide +kernel
theorem dL_law__1891 : decode cL_law_ 1891 = .ok (.iaload, 1) := by decide +kernel
theorem dL_law__1892 : decode cL_law_ 1892 = .ok (.invokevirtual 231, 3) := by decide +kernel
theorem dL_law__1895 : decode cL_law_ 1895 = .ok (.istore 6, 2) := by decide +kernel
theorem dL_law__1897 : decode cL_law_ 1897 = .ok (.aload_n 2, 1) := by decide +kernel
theorem dL_law__1898 : decode cL_law_ 1898 = .ok (.invokevirtual 130, 3) := by decide +kernel
theorem dL_law__1901 : decode cL_law_ 1901 = .ok (.iload 5, 2) := by decide +kernel
theorem dL_law__1903 : decode cL_law_ 1903 = .ok (.if_icmp .eq 5, 3) := by decide +kernel
theorem dL_law__1906 : decode cL_law_ 1906 = .ok (.iconst 0, 1) := by decide +kernel
theorem dL_law__1907 : decode cL_law_ 1907 = .ok (.ireturn, 1) := by decide +kernel
theorem dL_law__1908 : decode cL_law_ 1908 = .ok (.iload 5, 2) := by decide +kernel
theorem dL_law__1910 : decode cL_law_ 1910 = .ok (.ifCond .ne 15, 3) := by decide +kernel
theorem dL_law__1913 : decode cL_law_ 1913 = .ok (.aload_n 3, 1) := by decide +kernel
theorem dL_law__1914 : decode cL_law_ 1914 = .ok (.iconst 0, 1) := by decide +kernel
theorem dL_law__1915 : decode cL_law_ 1915 = .ok (.laload, 1) := by decide +kernel
theorem dL_law__1916 : decode cL_law_ 1916 = .ok (.iload 6, 2) := by decide +kernel
theorem dL_law__1918 : decode cL_law_ 1918 = .ok (.i2l, 1) := by decide +kernel
theorem dL_law__1919 : decode cL_law_ 1919 = .ok (.lcmp, 1) := by decide +kernel
theorem dL_law__1920 : decode cL_law_ 1920 = .ok (.ifCond .eq 5, 3) := by decide +kernel
theorem dL_law__1923 : decode cL_law_ 1923 = .ok (.iconst 0, 1) := by decide +kernel
theorem dL_law__1924 : decode cL_law_ 1924 = .ok (.ireturn, 1) := by decide +kernel
theorem dL_law__1925 : decode cL_law_ 1925 = .ok (.goto 558, 3) := by decide +kernel
theorem dL_law__1928 : decode cL_law_ 1928 = .ok (.aload_n 1, 1) := by decide +kernel
theorem dL_law__1929 : decode cL_law_ 1929 = .ok (.invokevirtual 232, 3) := by decide +kernel
theorem dL_law__1932 : decode cL_law_ 1932 = .ok (.aload_n 2, 1) := by decide +kernel
theorem dL_law__1933 : decode cL_law_ 1933 = .ok (.invokevirtual 235, 3) := by decide +kernel
theorem dL_law__1936 : decode cL_law_ 1936 = .ok (.if_icmp .eq 547, 3) := by decide +kernel
theorem dL_law__1939 : decode cL_law_ 1939 = .ok (.iconst 0, 1) := by decide +kernel
theorem dL_law__1940 : decode cL_law_ 1940 = .ok (.ireturn, 1) := by decide +kernel
theorem dL_law__1941 : decode cL_law_ 1941 = .ok (.aload_n 1, 1) := by decide +kernel
theorem dL_law__1942 : decode cL_law_ 1942 = .ok (.invokevirtual 236, 3) := by decide +kernel
theorem dL_law__1945 : decode cL_law_ 1945 = .ok (.aload_n 2, 1) := by decide +kernel
theorem dL_law__1946 : decode cL_law_ 1946 = .ok (.invokevirtual 239, 3) := by decide +kernel
theorem dL_law__1949 : decode cL_law_ 1949 = .ok (.if_icmp .eq 534, 3) := by decide +kernel
theorem dL_law__1952 : decode cL_law_ 1952 = .ok (.iconst 0, 1) := by decide +kernel
theorem dL_law__1953 : decode cL_law_ 1953 = .ok (.ireturn, 1) := by decide +kernel
theorem dL_law__1954 : decode cL_law_ 1954 = .ok (.aload_n 1, 1) := by decide +kernel
theorem dL_law__1955 : decode cL_law_ 1955 = .ok (.invokevirtual 240, 3) := by decide +kernel
theorem dL_law__1958 : decode cL_law_ 1958 = .ok (.aload_n 2, 1) := by decide +kernel
theorem dL_law__1959 : decode cL_law_ 1959 = .ok (.invokevirtual 243, 3) := by decide +kernel
theorem dL_law__1962 : decode cL_law_ 1962 = .ok (.if_icmp .eq 521, 3) := by decide +kernel
theorem dL_law__1965 : decode cL_law_ 1965 = .ok (.iconst 0, 1) := by decide +kernel
theorem dL_law__1966 : decode cL_law_ 1966 = .ok (.ireturn, 1) := by decide +kernel
theorem dL_law__1967 : decode cL_law_ 1967 = .ok (.aload_n 1, 1) := by decide +kernel
theorem dL_law__1968 : decode cL_law_ 1968 = .ok (.invokevirtual 244, 3) := by decide +kernel
theorem dL_law__1971 : decode cL_law_ 1971 = .ok (.aload_n 2, 1) := by decide +kernel
theorem dL_law__1972 : decode cL_law_ 1972 = .ok (.invokevirtual 247, 3) := by decide +kernel
theorem dL_law__1975 : decode cL_law_ 1975 = .ok (.if_icmp .eq 508, 3) := by decide +kernel
theorem dL_law__1978 : decode cL_law_ 1978 = .ok (.iconst 0, 1) := by decide +kernel
theorem dL_law__1979 : decode cL_law_ 1979 = .ok (.ireturn, 1) := by decide +kernel
theorem dL_law__1980 : decode cL_law_ 1980 = .ok (.aload_n 1, 1) := by decide +kernel
theorem dL_law__1981 : decode cL_law_ 1981 = .ok (.aload_n 0, 1) := by decide +kernel
theorem dL_law__1982 : decode cL_law_ 1982 = .ok (.iload 4, 2) := by decide +kernel
theorem dL_law__1984 : decode cL_law_ 1984 = .ok (.iconst 1, 1) := by decide +kernel
theorem dL_law__1985 : decode cL_law_ 1985 = .ok (.iadd, 1) := by decide +kernel
theorem dL_law__1986 : decode cL_law_ 1986 = .ok (.iaload, 1) := by decide +kernel
theorem dL_law__1987 : decode cL_law_ 1987 = .ok (.aload_n 0, 1) := by decide +kernel
theorem dL_law__1988 : decode cL_law_ 1988 = .ok (.iload 4, 2) := by decide +kernel
theorem dL_law__1990 : decode cL_law_ 1990 = .ok (.iconst 2, 1) := by decide +kernel
theorem dL_law__1991 : decode cL_law_ 1991 = .ok (.iadd, 1) := by decide +kernel
theorem dL_law__1992 : decode cL_law_ 1992 = .ok (.iaload, 1) := by decide +kernel
theorem dL_law__1993 : decode cL_law_ 1993 = .ok (.aload_n 0, 1) := by decide +kernel
theorem dL_law__1994 : decode cL_law_ 1994 = .ok (.iload 4, 2) := by decide +kernel
theorem dL_law__1996 : decode cL_law_ 1996 = .ok (.iconst 3, 1) := by decide +kernel
theorem dL_law__1997 : decode cL_law_ 1997 = .ok (.iadd, 1) := by decide +kernel
theorem dL_law__1998 : decode cL_law_ 1998 = .ok (.iaload, 1) := by decide +kernel
theorem dL_law__1999 : decode cL_law_ 1999 = .ok (.ifCond .eq 7, 3) := by decide +kernel
theorem dL_law__2002 : decode cL_law_ 2002 = .ok (.iconst 1, 1) := by decide +kernel
theorem dL_law__2003 : decode cL_law_ 2003 = .ok (.goto 4, 3) := by decide +kernel
theorem dL_law__2006 : decode cL_law_ 2006 = .ok (.iconst 0, 1) := by decide +kernel
theorem dL_law__2007 : decode cL_law_ 2007 = .ok (.aload_n 3, 1) := by decide +kernel
theorem dL_law__2008 : decode cL_law_ 2008 = .ok (.invokestatic 248, 3) := by decide +kernel
theorem dL_law__2011 : decode cL_law_ 2011 = .ok (.istore 5, 2) := by decide +kernel
theorem dL_law__2013 : decode cL_law_ 2013 = .ok (.aload_n 2, 1) := by decide +kernel
theorem dL_law__2014 : decode cL_law_ 2014 = .ok (.aload_n 0, 1) := by decide +kernel
theorem dL_law__2015 : decode cL_law_ 2015 = .ok (.iload 4, 2) := by decide +kernel
theorem dL_law__2017 : decode cL_law_ 2017 = .ok (.iconst 1, 1) := by decide +kernel
theorem dL_law__2018 : decode cL_law_ 2018 = .ok (.iadd, 1) := by decide +kernel
theorem dL_law__2019 : decode cL_law_ 2019 = .ok (.iaload, 1) := by decide +kernel
theorem dL_law__2020 : decode cL_law_ 2020 = .ok (.aload_n 0, 1) := by decide +kernel
theorem dL_law__2021 : decode cL_law_ 2021 = .ok (.iload 4, 2) := by decide +kernel
theorem dL_law__2023 : decode cL_law_ 2023 = .ok (.iconst 2, 1) := by decide +kernel
theorem dL_law__2024 : decode cL_law_ 2024 = .ok (.iadd, 1) := by decide +kernel
theorem dL_law__2025 : decode cL_law_ 2025 = .ok (.iaload, 1) := by decide +kernel
theorem dL_law__2026 : decode cL_law_ 2026 = .ok (.aload_n 0, 1) := by decide +kernel
theorem dL_law__2027 : decode cL_law_ 2027 = .ok (.iload 4, 2) := by decide +kernel
theorem dL_law__2029 : decode cL_law_ 2029 = .ok (.iconst 3, 1) := by decide +kernel
theorem dL_law__2030 : decode cL_law_ 2030 = .ok (.iadd, 1) := by decide +kernel
theorem dL_law__2031 : decode cL_law_ 2031 = .ok (.iaload, 1) := by decide +kernel
theorem dL_law__2032 : decode cL_law_ 2032 = .ok (.ifCond .eq 7, 3) := by decide +kernel
theorem dL_law__2035 : decode cL_law_ 2035 = .ok (.iconst 1, 1) := by decide +kernel
theorem dL_law__2036 : decode cL_law_ 2036 = .ok (.goto 4, 3) := by decide +kernel
theorem dL_law__2039 : decode cL_law_ 2039 = .ok (.iconst 0, 1) := by decide +kernel
theorem dL_law__2040 : decode cL_law_ 2040 = .ok (.invokevirtual 250, 3) := by decide +kernel
theorem dL_law__2043 : decode cL_law_ 2043 = .ok (.istore 6, 2) := by decide +kernel
theorem dL_law__2045 : decode cL_law_ 2045 = .ok (.aload_n 2, 1) := by decide +kernel
theorem dL_law__2046 : decode cL_law_ 2046 = .ok (.invokevirtual 130, 3) := by decide +kernel
theorem dL_law__2049 : decode cL_law_ 2049 = .ok (.iload 5, 2) := by decide +kernel
theorem dL_law__2051 : decode cL_law_ 2051 = .ok (.if_icmp .eq 5, 3) := by decide +kernel
theorem dL_law__2054 : decode cL_law_ 2054 = .ok (.iconst 0, 1) := by decide +kernel
theorem dL_law__2055 : decode cL_law_ 2055 = .ok (.ireturn, 1) := by decide +kernel
theorem dL_law__2056 : decode cL_law_ 2056 = .ok (.iload 5, 2) := by decide +kernel
theorem dL_law__2058 : decode cL_law_ 2058 = .ok (.ifCond .ne 15, 3) := by decide +kernel
theorem dL_law__2061 : decode cL_law_ 2061 = .ok (.aload_n 3, 1) := by decide +kernel
theorem dL_law__2062 : decode cL_law_ 2062 = .ok (.iconst 0, 1) := by decide +kernel
theorem dL_law__2063 : decode cL_law_ 2063 = .ok (.laload, 1) := by decide +kernel
theorem dL_law__2064 : decode cL_law_ 2064 = .ok (.iload 6, 2) := by decide +kernel
theorem dL_law__2066 : decode cL_law_ 2066 = .ok (.i2l, 1) := by decide +kernel
theorem dL_law__2067 : decode cL_law_ 2067 = .ok (.lcmp, 1) := by decide +kernel
theorem dL_law__2068 : decode cL_law_ 2068 = .ok (.ifCond .eq 5, 3) := by decide +kernel
theorem dL_law__2071 : decode cL_law_ 2071 = .ok (.iconst 0, 1) := by decide +kernel
theorem dL_law__2072 : decode cL_law_ 2072 = .ok (.ireturn, 1) := by decide +kernel
theorem dL_law__2073 : decode cL_law_ 2073 = .ok (.goto 410, 3) := by decide +kernel
theorem dL_law__2076 : decode cL_law_ 2076 = .ok (.aload_n 1, 1) := by decide +kernel
theorem dL_law__2077 : decode cL_law_ 2077 = .ok (.aload_n 0, 1) := by decide +kernel
theorem dL_law__2078 : decode cL_law_ 2078 = .ok (.iload 4, 2) := by decide +kernel
theorem dL_law__2080 : decode cL_law_ 2080 = .ok (.iconst 1, 1) := by decide +kernel
theorem dL_law__2081 : decode cL_law_ 2081 = .ok (.iadd, 1) := by decide +kernel
theorem dL_law__2082 : decode cL_law_ 2082 = .ok (.iaload, 1) := by decide +kernel
theorem dL_law__2083 : decode cL_law_ 2083 = .ok (.aload_n 0, 1) := by decide +kernel
theorem dL_law__2084 : decode cL_law_ 2084 = .ok (.iload 4, 2) := by decide +kernel
theorem dL_law__2086 : decode cL_law_ 2086 = .ok (.iconst 2, 1) := by decide +kernel
theorem dL_law__2087 : decode cL_law_ 2087 = .ok (.iadd, 1) := by decide +kernel
theorem dL_law__2088 : decode cL_law_ 2088 = .ok (.iaload, 1) := by decide +kernel
theorem dL_law__2089 : decode cL_law_ 2089 = .ok (.ifCond .eq 7, 3) := by decide +kernel
theorem dL_law__2092 : decode cL_law_ 2092 = .ok (.iconst 1, 1) := by decide +kernel
theorem dL_law__2093 : decode cL_law_ 2093 = .ok (.goto 4, 3) := by decide +kernel
theorem dL_law__2096 : decode cL_law_ 2096 = .ok (.iconst 0, 1) := by decide +kernel
theorem dL_law__2097 : decode cL_law_ 2097 = .ok (.aload_n 3, 1) := by decide +kernel
theorem dL_law__2098 : decode cL_law_ 2098 = .ok (.invokestatic 251, 3) := by decide +kernel
theorem dL_law__2101 : decode cL_law_ 2101 = .ok (.istore 5, 2) := by decide +kernel
theorem dL_law__2103 : decode cL_law_ 2103 = .ok (.aload_n 2, 1) := by decide +kernel
theorem dL_law__2104 : decode cL_law_ 2104 = .ok (.aload_n 0, 1) := by decide +kernel
theorem dL_law__2105 : decode cL_law_ 2105 = .ok (.iload 4, 2) := by decide +kernel
theorem dL_law__2107 : decode cL_law_ 2107 = .ok (.iconst 1, 1) := by decide +kernel
theorem dL_law__2108 : decode cL_law_ 2108 = .ok (.iadd, 1) := by decide +kernel
theorem dL_law__2109 : decode cL_law_ 2109 = .ok (.iaload, 1) := by decide +kernel
theorem dL_law__2110 : decode cL_law_ 2110 = .ok (.aload_n 0, 1) := by decide +kernel
theorem dL_law__2111 : decode cL_law_ 2111 = .ok (.iload 4, 2) := by decide +kernel
theorem dL_law__2113 : decode cL_law_ 2113 = .ok (.iconst 2, 1) := by decide +kernel
theorem dL_law__2114 : decode cL_law_ 2114 = .ok (.iadd, 1) := by decide +kernel
theorem dL_law__2115 : decode cL_law_ 2115 = .ok (.iaload, 1) := by decide +kernel
theorem dL_law__2116 : decode cL_law_ 2116 = .ok (.ifCond .eq 7, 3) := by decide +kernel
theorem dL_law__2119 : decode cL_law_ 2119 = .ok (.iconst 1, 1) := by decide +kernel
theorem dL_law__2120 : decode cL_law_ 2120 = .ok (.goto 4, 3) := by decide +kernel
theorem dL_law__2123 : decode cL_law_ 2123 = .ok (.iconst 0, 1) := by decide +kernel
theorem dL_law__2124 : decode cL_law_ 2124 = .ok (.invokevirtual 253, 3) := by decide +kernel
theorem dL_law__2127 : decode cL_law_ 2127 = .ok (.istore 6, 2) := by decide +kernel
theorem dL_law__2129 : decode cL_law_ 2129 = .ok (.aload_n 2, 1) := by decide +kernel
theorem dL_law__2130 : decode cL_law_ 2130 = .ok (.invokevirtual 130, 3) := by decide +kernel
theorem dL_law__2133 : decode cL_law_ 2133 = .ok (.iload 5, 2) := by decide +kernel
theorem dL_law__2135 : decode cL_law_ 2135 = .ok (.if_icmp .eq 5, 3) := by decide +kernel
theorem dL_law__2138 : decode cL_law_ 2138 = .ok (.iconst 0, 1) := by decide +kernel
theorem dL_law__2139 : decode cL_law_ 2139 = .ok (.ireturn, 1) := by decide +kernel
theorem dL_law__2140 : decode cL_law_ 2140 = .ok (.iload 5, 2) := by decide +kernel
theorem dL_law__2142 : decode cL_law_ 2142 = .ok (.ifCond .ne 15, 3) := by decide +kernel
theorem dL_law__2145 : decode cL_law_ 2145 = .ok (.aload_n 3, 1) := by decide +kernel
theorem dL_law__2146 : decode cL_law_ 2146 = .ok (.iconst 0, 1) := by decide +kernel
theorem dL_law__2147 : decode cL_law_ 2147 = .ok (.laload, 1) := by decide +kernel
theorem dL_law__2148 : decode cL_law_ 2148 = .ok (.iload 6, 2) := by decide +kernel
theorem dL_law__2150 : decode cL_law_ 2150 = .ok (.i2l, 1) := by decide +kernel
theorem dL_law__2151 : decode cL_law_ 2151 = .ok (.lcmp, 1) := by decide +kernel
theorem dL_law__2152 : decode cL_law_ 2152 = .ok (.ifCond .eq 5, 3) := by decide +kernel
theorem dL_law__2155 : decode cL_law_ 2155 = .ok (.iconst 0, 1) := by decide +kernel
theorem dL_law__2156 : decode cL_law_ 2156 = .ok (.ireturn, 1) := by decide +kernel
theorem dL_law__2157 : decode cL_law_ 2157 = .ok (.goto 326, 3) := by decide +kernel
theorem dL_law__2160 : decode cL_law_ 2160 = .ok (.aload_n 1, 1) := by decide +kernel
theorem dL_law__2161 : decode cL_law_ 2161 = .ok (.aload_n 0, 1) := by decide +kernel
theorem dL_law__2162 : decode cL_law_ 2162 = .ok (.iload 4, 2) := by decide +kernel
theorem dL_law__2164 : decode cL_law_ 2164 = .ok (.iconst 1, 1) := by decide +kernel
theorem dL_law__2165 : decode cL_law_ 2165 = .ok (.iadd, 1) := by decide +kernel
theorem dL_law__2166 : decode cL_law_ 2166 = .ok (.iaload, 1) := by decide +kernel
theorem dL_law__2167 : decode cL_law_ 2167 = .ok (.aload_n 0, 1) := by decide +kernel
theorem dL_law__2168 : decode cL_law_ 2168 = .ok (.iload 4, 2) := by decide +kernel
theorem dL_law__2170 : decode cL_law_ 2170 = .ok (.iconst 2, 1) := by decide +kernel
theorem dL_law__2171 : decode cL_law_ 2171 = .ok (.iadd, 1) := by decide +kernel
theorem dL_law__2172 : decode cL_law_ 2172 = .ok (.iaload, 1) := by decide +kernel
theorem dL_law__2173 : decode cL_law_ 2173 = .ok (.ifCond .eq 7, 3) := by decide +kernel
theorem dL_law__2176 : decode cL_law_ 2176 = .ok (.iconst 1, 1) := by decide +kernel
theorem dL_law__2177 : decode cL_law_ 2177 = .ok (.goto 4, 3) := by decide +kernel
theorem dL_law__2180 : decode cL_law_ 2180 = .ok (.iconst 0, 1) := by decide +kernel
theorem dL_law__2181 : decode cL_law_ 2181 = .ok (.aload_n 3, 1) := by decide +kernel
theorem dL_law__2182 : decode cL_law_ 2182 = .ok (.invokestatic 254, 3) := by decide +kernel
theorem dL_law__2185 : decode cL_law_ 2185 = .ok (.istore 5, 2) := by decide +kernel
theorem dL_law__2187 : decode cL_law_ 2187 = .ok (.aload_n 2, 1) := by decide +kernel
theorem dL_law__2188 : decode cL_law_ 2188 = .ok (.aload_n 0, 1) := by decide +kernel
theorem dL_law__2189 : decode cL_law_ 2189 = .ok (.iload 4, 2) := by decide +kernel
theorem dL_law__2191 : decode cL_law_ 2191 = .ok (.iconst 1, 1) := by decide +kernel
theorem dL_law__2192 : decode cL_law_ 2192 = .ok (.iadd, 1) := by decide +kernel
theorem dL_law__2193 : decode cL_law_ 2193 = .ok (.iaload, 1) := by decide +kernel
theorem dL_law__2194 : decode cL_law_ 2194 = .ok (.aload_n 0, 1) := by decide +kernel
theorem dL_law__2195 : decode cL_law_ 2195 = .ok (.iload 4, 2) := by decide +kernel
theorem dL_law__2197 : decode cL_law_ 2197 = .ok (.iconst 2, 1) := by decide +kernel
theorem dL_law__2198 : decode cL_law_ 2198 = .ok (.iadd, 1) := by decide +kernel
theorem dL_law__2199 : decode cL_law_ 2199 = .ok (.iaload, 1) := by decide +kernel
theorem dL_law__2200 : decode cL_law_ 2200 = .ok (.ifCond .eq 7, 3) := by decide +kernel
theorem dL_law__2203 : decode cL_law_ 2203 = .ok (.iconst 1, 1) := by decide +kernel
theorem dL_law__2204 : decode cL_law_ 2204 = .ok (.goto 4, 3) := by decide +kernel
theorem dL_law__2207 : decode cL_law_ 2207 = .ok (.iconst 0, 1) := by decide +kernel
theorem dL_law__2208 : decode cL_law_ 2208 = .ok (.invokevirtual 256, 3) := by decide +kernel
theorem dL_law__2211 : decode cL_law_ 2211 = .ok (.istore 6, 2) := by decide +kernel
theorem dL_law__2213 : decode cL_law_ 2213 = .ok (.aload_n 2, 1) := by decide +kernel
theorem dL_law__2214 : decode cL_law_ 2214 = .ok (.invokevirtual 130, 3) := by decide +kernel
theorem dL_law__2217 : decode cL_law_ 2217 = .ok (.iload 5, 2) := by decide +kernel
theorem dL_law__2219 : decode cL_law_ 2219 = .ok (.if_icmp .eq 5, 3) := by decide +kernel
theorem dL_law__2222 : decode cL_law_ 2222 = .ok (.iconst 0, 1) := by decide +kernel
theorem dL_law__2223 : decode cL_law_ 2223 = .ok (.ireturn, 1) := by decide +kernel
theorem dL_law__2224 : decode cL_law_ 2224 = .ok (.iload 5, 2) := by decide +kernel
theorem dL_law__2226 : decode cL_law_ 2226 = .ok (.ifCond .ne 15, 3) := by decide +kernel
theorem dL_law__2229 : decode cL_law_ 2229 = .ok (.aload_n 3, 1) := by decide +kernel
theorem dL_law__2230 : decode cL_law_ 2230 = .ok (.iconst 0, 1) := by decide +kernel
theorem dL_law__2231 : decode cL_law_ 2231 = .ok (.laload, 1) := by decide +kernel
theorem dL_law__2232 : decode cL_law_ 2232 = .ok (.iload 6, 2) := by decide +kernel
theorem dL_law__2234 : decode cL_law_ 2234 = .ok (.i2l, 1) := by decide +kernel
theorem dL_law__2235 : decode cL_law_ 2235 = .ok (.lcmp, 1) := by decide +kernel
theorem dL_law__2236 : decode cL_law_ 2236 = .ok (.ifCond .eq 5, 3) := by decide +kernel
theorem dL_law__2239 : decode cL_law_ 2239 = .ok (.iconst 0, 1) := by decide +kernel
theorem dL_law__2240 : decode cL_law_ 2240 = .ok (.ireturn, 1) := by decide +kernel
theorem dL_law__2241 : decode cL_law_ 2241 = .ok (.goto 242, 3) := by decide +kernel
theorem dL_law__2244 : decode cL_law_ 2244 = .ok (.aload_n 1, 1) := by decide +kernel
theorem dL_law__2245 : decode cL_law_ 2245 = .ok (.aload_n 0, 1) := by decide +kernel
theorem dL_law__2246 : decode cL_law_ 2246 = .ok (.iload 4, 2) := by decide +kernel
theorem dL_law__2248 : decode cL_law_ 2248 = .ok (.iconst 1, 1) := by decide +kernel
theorem dL_law__2249 : decode cL_law_ 2249 = .ok (.iadd, 1) := by decide +kernel
theorem dL_law__2250 : decode cL_law_ 2250 = .ok (.iaload, 1) := by decide +kernel
theorem dL_law__2251 : decode cL_law_ 2251 = .ok (.aload_n 0, 1) := by decide +kernel
theorem dL_law__2252 : decode cL_law_ 2252 = .ok (.iload 4, 2) := by decide +kernel
theorem dL_law__2254 : decode cL_law_ 2254 = .ok (.iconst 2, 1) := by decide +kernel
theorem dL_law__2255 : decode cL_law_ 2255 = .ok (.iadd, 1) := by decide +kernel
theorem dL_law__2256 : decode cL_law_ 2256 = .ok (.iaload, 1) := by decide +kernel
theorem dL_law__2257 : decode cL_law_ 2257 = .ok (.ifCond .eq 7, 3) := by decide +kernel
theorem dL_law__2260 : decode cL_law_ 2260 = .ok (.iconst 1, 1) := by decide +kernel
theorem dL_law__2261 : decode cL_law_ 2261 = .ok (.goto 4, 3) := by decide +kernel
theorem dL_law__2264 : decode cL_law_ 2264 = .ok (.iconst 0, 1) := by decide +kernel
theorem dL_law__2265 : decode cL_law_ 2265 = .ok (.aload_n 3, 1) := by decide +kernel
theorem dL_law__2266 : decode cL_law_ 2266 = .ok (.invokestatic 257, 3) := by decide +kernel
theorem dL_law__2269 : decode cL_law_ 2269 = .ok (.istore 5, 2) := by decide +kernel
theorem dL_law__2271 : decode cL_law_ 2271 = .ok (.aload_n 2, 1) := by decide +kernel
theorem dL_law__2272 : decode cL_law_ 2272 = .ok (.aload_n 0, 1) := by decide +kernel
theorem dL_law__2273 : decode cL_law_ 2273 = .ok (.iload 4, 2) := by decide +kernel
theorem dL_law__2275 : decode cL_law_ 2275 = .ok (.iconst 1, 1) := by decide +kernel
theorem dL_law__2276 : decode cL_law_ 2276 = .ok (.iadd, 1) := by decide +kernel
theorem dL_law__2277 : decode cL_law_ 2277 = .ok (.iaload, 1) := by decide +kernel
theorem dL_law__2278 : decode cL_law_ 2278 = .ok (.aload_n 0, 1) := by decide +kernel
theorem dL_law__2279 : decode cL_law_ 2279 = .ok (.iload 4, 2) := by decide +kernel
theorem dL_law__2281 : decode cL_law_ 2281 = .ok (.iconst 2, 1) := by decide +kernel
theorem dL_law__2282 : decode cL_law_ 2282 = .ok (.iadd, 1) := by decide +kernel
theorem dL_law__2283 : decode cL_law_ 2283 = .ok (.iaload, 1) := by decide +kernel
theorem dL_law__2284 : decode cL_law_ 2284 = .ok (.ifCond .eq 7, 3) := by decide +kernel
theorem dL_law__2287 : decode cL_law_ 2287 = .ok (.iconst 1, 1) := by decide +kernel
theorem dL_law__2288 : decode cL_law_ 2288 = .ok (.goto 4, 3) := by decide +kernel
theorem dL_law__2291 : decode cL_law_ 2291 = .ok (.iconst 0, 1) := by decide +kernel
theorem dL_law__2292 : decode cL_law_ 2292 = .ok (.invokevirtual 259, 3) := by decide +kernel
theorem dL_law__2295 : decode cL_law_ 2295 = .ok (.istore 6, 2) := by decide +kernel
theorem dL_law__2297 : decode cL_law_ 2297 = .ok (.aload_n 2, 1) := by decide +kernel
theorem dL_law__2298 : decode cL_law_ 2298 = .ok (.invokevirtual 130, 3) := by decide +kernel
theorem dL_law__2301 : decode cL_law_ 2301 = .ok (.iload 5, 2) := by decide +kernel
theorem dL_law__2303 : decode cL_law_ 2303 = .ok (.if_icmp .eq 5, 3) := by decide +kernel
theorem dL_law__2306 : decode cL_law_ 2306 = .ok (.iconst 0, 1) := by decide +kernel
theorem dL_law__2307 : decode cL_law_ 2307 = .ok (.ireturn, 1) := by decide +kernel
theorem dL_law__2308 : decode cL_law_ 2308 = .ok (.iload 5, 2) := by decide +kernel
theorem dL_law__2310 : decode cL_law_ 2310 = .ok (.ifCond .ne 15, 3) := by decide +kernel
theorem dL_law__2313 : decode cL_law_ 2313 = .ok (.aload_n 3, 1) := by decide +kernel
theorem dL_law__2314 : decode cL_law_ 2314 = .ok (.iconst 0, 1) := by decide +kernel
theorem dL_law__2315 : decode cL_law_ 2315 = .ok (.laload, 1) := by decide +kernel
theorem dL_law__2316 : decode cL_law_ 2316 = .ok (.iload 6, 2) := by decide +kernel
theorem dL_law__2318 : decode cL_law_ 2318 = .ok (.i2l, 1) := by decide +kernel
theorem dL_law__2319 : decode cL_law_ 2319 = .ok (.lcmp, 1) := by decide +kernel
theorem dL_law__2320 : decode cL_law_ 2320 = .ok (.ifCond .eq 5, 3) := by decide +kernel
theorem dL_law__2323 : decode cL_law_ 2323 = .ok (.iconst 0, 1) := by decide +kernel
theorem dL_law__2324 : decode cL_law_ 2324 = .ok (.ireturn, 1) := by decide +kernel
theorem dL_law__2325 : decode cL_law_ 2325 = .ok (.goto 158, 3) := by decide +kernel
theorem dL_law__2328 : decode cL_law_ 2328 = .ok (.aload_n 1, 1) := by decide +kernel
theorem dL_law__2329 : decode cL_law_ 2329 = .ok (.aload_n 0, 1) := by decide +kernel
theorem dL_law__2330 : decode cL_law_ 2330 = .ok (.iload 4, 2) := by decide +kernel
theorem dL_law__2332 : decode cL_law_ 2332 = .ok (.iconst 1, 1) := by decide +kernel
theorem dL_law__2333 : decode cL_law_ 2333 = .ok (.iadd, 1) := by decide +kernel
theorem dL_law__2334 : decode cL_law_ 2334 = .ok (.iaload, 1) := by decide +kernel
theorem dL_law__2335 : decode cL_law_ 2335 = .ok (.aload_n 0, 1) := by decide +kernel
theorem dL_law__2336 : decode cL_law_ 2336 = .ok (.iload 4, 2) := by decide +kernel
theorem dL_law__2338 : decode cL_law_ 2338 = .ok (.iconst 2, 1) := by decide +kernel
theorem dL_law__2339 : decode cL_law_ 2339 = .ok (.iadd, 1) := by decide +kernel
theorem dL_law__2340 : decode cL_law_ 2340 = .ok (.iaload, 1) := by decide +kernel
theorem dL_law__2341 : decode cL_law_ 2341 = .ok (.aload_n 3, 1) := by decide +kernel
theorem dL_law__2342 : decode cL_law_ 2342 = .ok (.invokestatic 260, 3) := by decide +kernel
theorem dL_law__2345 : decode cL_law_ 2345 = .ok (.istore 5, 2) := by decide +kernel
theorem dL_law__2347 : decode cL_law_ 2347 = .ok (.aload_n 2, 1) := by decide +kernel
theorem dL_law__2348 : decode cL_law_ 2348 = .ok (.aload_n 0, 1) := by decide +kernel
theorem dL_law__2349 : decode cL_law_ 2349 = .ok (.iload 4, 2) := by decide +kernel
theorem dL_law__2351 : decode cL_law_ 2351 = .ok (.iconst 1, 1) := by decide +kernel
theorem dL_law__2352 : decode cL_law_ 2352 = .ok (.iadd, 1) := by decide +kernel
theorem dL_law__2353 : decode cL_law_ 2353 = .ok (.iaload, 1) := by decide +kernel
theorem dL_law__2354 : decode cL_law_ 2354 = .ok (.aload_n 0, 1) := by decide +kernel
theorem dL_law__2355 : decode cL_law_ 2355 = .ok (.iload 4, 2) := by decide +kernel
theorem dL_law__2357 : decode cL_law_ 2357 = .ok (.iconst 2, 1) := by decide +kernel
theorem dL_law__2358 : decode cL_law_ 2358 = .ok (.iadd, 1) := by decide +kernel
theorem dL_law__2359 : decode cL_law_ 2359 = .ok (.iaload, 1) := by decide +kernel
theorem dL_law__2360 : decode cL_law_ 2360 = .ok (.invokevirtual 262, 3) := by decide +kernel
theorem dL_law__2363 : decode cL_law_ 2363 = .ok (.istore 6, 2) := by decide +kernel
theorem dL_law__2365 : decode cL_law_ 2365 = .ok (.aload_n 2, 1) := by decide +kernel
theorem dL_law__2366 : decode cL_law_ 2366 = .ok (.invokevirtual 130, 3) := by decide +kernel
theorem dL_law__2369 : decode cL_law_ 2369 = .ok (.iload 5, 2) := by decide +kernel
theorem dL_law__2371 : decode cL_law_ 2371 = .ok (.if_icmp .eq 5, 3) := by decide +kernel
theorem dL_law__2374 : decode cL_law_ 2374 = .ok (.iconst 0, 1) := by decide +kernel
theorem dL_law__2375 : decode cL_law_ 2375 = .ok (.ireturn, 1) := by decide +kernel
theorem dL_law__2376 : decode cL_law_ 2376 = .ok (.iload 5, 2) := by decide +kernel
theorem dL_law__2378 : decode cL_law_ 2378 = .ok (.ifCond .ne 15, 3) := by decide +kernel
theorem dL_law__2381 : decode cL_law_ 2381 = .ok (.aload_n 3, 1) := by decide +kernel
theorem dL_law__2382 : decode cL_law_ 2382 = .ok (.iconst 0, 1) := by decide +kernel
theorem dL_law__2383 : decode cL_law_ 2383 = .ok (.laload, 1) := by decide +kernel
theorem dL_law__2384 : decode cL_law_ 2384 = .ok (.iload 6, 2) := by decide +kernel
theorem dL_law__2386 : decode cL_law_ 2386 = .ok (.i2l, 1) := by decide +kernel
theorem dL_law__2387 : decode cL_law_ 2387 = .ok (.lcmp, 1) := by decide +kernel
theorem dL_law__2388 : decode cL_law_ 2388 = .ok (.ifCond .eq 5, 3) := by decide +kernel
theorem dL_law__2391 : decode cL_law_ 2391 = .ok (.iconst 0, 1) := by decide +kernel
theorem dL_law__2392 : decode cL_law_ 2392 = .ok (.ireturn, 1) := by decide +kernel
theorem dL_law__2393 : decode cL_law_ 2393 = .ok (.goto 90, 3) := by decide +kernel
theorem dL_law__2396 : decode cL_law_ 2396 = .ok (.aload_n 1, 1) := by decide +kernel
theorem dL_law__2397 : decode cL_law_ 2397 = .ok (.aload_n 0, 1) := by decide +kernel
theorem dL_law__2398 : decode cL_law_ 2398 = .ok (.iload 4, 2) := by decide +kernel
theorem dL_law__2400 : decode cL_law_ 2400 = .ok (.iconst 1, 1) := by decide +kernel
theorem dL_law__2401 : decode cL_law_ 2401 = .ok (.iadd, 1) := by decide +kernel
theorem dL_law__2402 : decode cL_law_ 2402 = .ok (.iaload, 1) := by decide +kernel
theorem dL_law__2403 : decode cL_law_ 2403 = .ok (.invokevirtual 263, 3) := by decide +kernel
theorem dL_law__2406 : decode cL_law_ 2406 = .ok (.aload_n 2, 1) := by decide +kernel
theorem dL_law__2407 : decode cL_law_ 2407 = .ok (.aload_n 0, 1) := by decide +kernel
theorem dL_law__2408 : decode cL_law_ 2408 = .ok (.iload 4, 2) := by decide +kernel
theorem dL_law__2410 : decode cL_law_ 2410 = .ok (.iconst 1, 1) := by decide +kernel
theorem dL_law__2411 : decode cL_law_ 2411 = .ok (.iadd, 1) := by decide +kernel
theorem dL_law__2412 : decode cL_law_ 2412 = .ok (.iaload, 1) := by decide +kernel
theorem dL_law__2413 : decode cL_law_ 2413 = .ok (.invokevirtual 266, 3) := by decide +kernel
theorem dL_law__2416 : decode cL_law_ 2416 = .ok (.if_icmp .eq 67, 3) := by decide +kernel
theorem dL_law__2419 : decode cL_law_ 2419 = .ok (.iconst 0, 1) := by decide +kernel
theorem dL_law__2420 : decode cL_law_ 2420 = .ok (.ireturn, 1) := by decide +kernel
theorem dL_law__2421 : decode cL_law_ 2421 = .ok (.aload_n 1, 1) := by decide +kernel
theorem dL_law__2422 : decode cL_law_ 2422 = .ok (.invokevirtual 267, 3) := by decide +kernel
theorem dL_law__2425 : decode cL_law_ 2425 = .ok (.aload_n 2, 1) := by decide +kernel
theorem dL_law__2426 : decode cL_law_ 2426 = .ok (.invokevirtual 271, 3) := by decide +kernel
theorem dL_law__2429 : decode cL_law_ 2429 = .ok (.if_icmp .eq 54, 3) := by decide +kernel
theorem dL_law__2432 : decode cL_law_ 2432 = .ok (.iconst 0, 1) := by decide +kernel
theorem dL_law__2433 : decode cL_law_ 2433 = .ok (.ireturn, 1) := by decide +kernel
theorem dL_law__2434 : decode cL_law_ 2434 = .ok (.aload_n 1, 1) := by decide +kernel
theorem dL_law__2435 : decode cL_law_ 2435 = .ok (.invokevirtual 272, 3) := by decide +kernel
theorem dL_law__2438 : decode cL_law_ 2438 = .ok (.aload_n 2, 1) := by decide +kernel
theorem dL_law__2439 : decode cL_law_ 2439 = .ok (.invokevirtual 275, 3) := by decide +kernel
theorem dL_law__2442 : decode cL_law_ 2442 = .ok (.goto 41, 3) := by decide +kernel
theorem dL_law__2445 : decode cL_law_ 2445 = .ok (.aload_n 1, 1) := by decide +kernel
theorem dL_law__2446 : decode cL_law_ 2446 = .ok (.invokevirtual 276, 3) := by decide +kernel
theorem dL_law__2449 : decode cL_law_ 2449 = .ok (.aload_n 2, 1) := by decide +kernel
theorem dL_law__2450 : decode cL_law_ 2450 = .ok (.invokevirtual 279, 3) := by decide +kernel
theorem dL_law__2453 : decode cL_law_ 2453 = .ok (.if_icmp .eq 30, 3) := by decide +kernel
theorem dL_law__2456 : decode cL_law_ 2456 = .ok (.iconst 0, 1) := by decide +kernel
theorem dL_law__2457 : decode cL_law_ 2457 = .ok (.ireturn, 1) := by decide +kernel
theorem dL_law__2458 : decode cL_law_ 2458 = .ok (.aload_n 1, 1) := by decide +kernel
theorem dL_law__2459 : decode cL_law_ 2459 = .ok (.aload_n 0, 1) := by decide +kernel
theorem dL_law__2460 : decode cL_law_ 2460 = .ok (.iload 4, 2) := by decide +kernel
theorem dL_law__2462 : decode cL_law_ 2462 = .ok (.iconst 1, 1) := by decide +kernel
theorem dL_law__2463 : decode cL_law_ 2463 = .ok (.iadd, 1) := by decide +kernel
theorem dL_law__2464 : decode cL_law_ 2464 = .ok (.iaload, 1) := by decide +kernel
theorem dL_law__2465 : decode cL_law_ 2465 = .ok (.invokevirtual 280, 3) := by decide +kernel
theorem dL_law__2468 : decode cL_law_ 2468 = .ok (.aload_n 2, 1) := by decide +kernel
theorem dL_law__2469 : decode cL_law_ 2469 = .ok (.aload_n 0, 1) := by decide +kernel
theorem dL_law__2470 : decode cL_law_ 2470 = .ok (.iload 4, 2) := by decide +kernel
theorem dL_law__2472 : decode cL_law_ 2472 = .ok (.iconst 1, 1) := by decide +kernel
theorem dL_law__2473 : decode cL_law_ 2473 = .ok (.iadd, 1) := by decide +kernel
theorem dL_law__2474 : decode cL_law_ 2474 = .ok (.iaload, 1) := by decide +kernel
theorem dL_law__2475 : decode cL_law_ 2475 = .ok (.invokevirtual 283, 3) := by decide +kernel
theorem dL_law__2478 : decode cL_law_ 2478 = .ok (.if_icmp .eq 5, 3) := by decide +kernel
theorem dL_law__2481 : decode cL_law_ 2481 = .ok (.iconst 0, 1) := by decide +kernel
theorem dL_law__2482 : decode cL_law_ 2482 = .ok (.ireturn, 1) := by decide +kernel
theorem dL_law__2483 : decode cL_law_ 2483 = .ok (.iinc 4 6, 3) := by decide +kernel
theorem dL_law__2486 : decode cL_law_ 2486 = .ok (.goto (-2463), 3) := by decide +kernel
theorem dL_law__2489 : decode cL_law_ 2489 = .ok (.iconst 1, 1) := by decide +kernel
theorem dL_law__2490 : decode cL_law_ 2490 = .ok (.ireturn, 1) := by decide +kernel
