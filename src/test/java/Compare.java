/** Holds every answer that an object's state can give against the model's. */
final class Compare {
    private Compare() {}

    static void all(Check check, String when, PvqBandCodec x, Model model) {
        check.due(when + ": packetLength()", x.packetLength(), model.packetLength());
        for (int i = -1; i <= 64; i++) {
            check.due(when + ": packetByte(" + i + ")", x.packetByte(i), model.packetByte(i));
        }
        for (int pos = -1; pos <= 32; pos++) {
            check.due(when + ": coefAt(" + pos + ")", x.coefAt(pos), model.coefAt(pos));
            check.due(when + ": decodedCoef(" + pos + ")", x.decodedCoef(pos), model.decodedCoef(pos));
            for (int side = -1; side <= 2; side++) {
                check.due(when + ": pulse(" + side + ", " + pos + ")", x.pulse(side, pos), model.pulse(side, pos));
            }
        }
        for (int side = -1; side <= 2; side++) {
            for (int band = -1; band <= 4; band++) {
                check.due(when + ": energyQ(" + side + ", " + band + ")",
                        x.energyQ(side, band), model.energyQ(side, band));
            }
        }
        for (int i = -1; i <= 9; i++) {
            check.due(when + ": vecAt(" + i + ")", x.vecAt(i), model.vecAt(i));
            check.due(when + ": vecIndex(" + i + ")", x.vecIndex(i), model.vecIndex(i));
        }
    }
}
