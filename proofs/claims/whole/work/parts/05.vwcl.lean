abbrev vwCl : List vw_C := [(RX1, TX1, 2), (RX2, TX2, 4), (RX3, TX3, 20), (RX4, TX4, 4), (RX5, TX5, 7), (RX6, TX6, 4), (RX8, TX8, 4), (RX10, TX10, 4), (RX11, TX11, 20), (RX12, TX12, 20)]
