/** The parts of an object's state as its answers show them, so that a test can say what stays. */
final class State {
    private State() {}

    static String inputs(PvqBandCodec x) {
        StringBuilder s = new StringBuilder("inputs");
        for (int pos = 0; pos < 32; pos++) {
            s.append(' ').append(x.coefAt(pos));
        }
        return s.toString();
    }

    static String side(PvqBandCodec x, int side) {
        StringBuilder s = new StringBuilder("side " + side + " q");
        for (int band = 0; band < 4; band++) {
            s.append(' ').append(x.energyQ(side, band));
        }
        s.append(" pulses");
        for (int pos = 0; pos < 32; pos++) {
            s.append(' ').append(x.pulse(side, pos));
        }
        return s.toString();
    }

    static String encoder(PvqBandCodec x) {
        return side(x, 0);
    }

    static String decoder(PvqBandCodec x) {
        StringBuilder s = new StringBuilder(side(x, 1) + " decoded");
        for (int pos = 0; pos < 32; pos++) {
            s.append(' ').append(x.decodedCoef(pos));
        }
        return s.toString();
    }

    static String packet(PvqBandCodec x) {
        StringBuilder s = new StringBuilder("packet of " + x.packetLength());
        for (int i = 0; i < 64; i++) {
            int value = x.packetByte(i);
            if (value != -1000000) {
                s.append(' ').append(i).append(':').append(value);
            }
        }
        return s.toString();
    }

    static String scratch(PvqBandCodec x) {
        StringBuilder s = new StringBuilder("scratch");
        for (int i = 0; i < 8; i++) {
            s.append(' ').append(x.vecAt(i));
        }
        return s.toString();
    }

    static String whole(PvqBandCodec x) {
        return inputs(x) + "\n  " + encoder(x) + "\n  " + decoder(x) + "\n  " + packet(x) + "\n  " + scratch(x);
    }

    /** An object in which every part of the state is other than fresh. */
    static PvqBandCodec busy() {
        PvqBandCodec x = new PvqBandCodec(3, 7, 12, 16);
        for (int pos = 0; pos < 32; pos++) {
            x.setCoef(pos, (pos % 3 - 1) * (40 * pos + 7));
        }
        // The first and the last of all pulses are where a step too far would show.
        x.setCoef(0, -500);
        x.setCoef(31, 2000);
        for (int i = 0; i < 8; i++) {
            x.setVec(i, i - 4);
        }
        x.encodeFrame();
        x.decodeFrame();
        x.setCoef(5, -900);
        return x;
    }
}
