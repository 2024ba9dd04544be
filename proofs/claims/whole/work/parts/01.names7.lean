abbrev vwCl : List vw_C := [(RX0, TX0, 12), (RX1, TX1, 2), (RX2, TX2, 6), (RX3, TX3, 3), (RX5, TX5, 4), (RX6, TX6, 18)]

