/** Ways to bring an object to a wanted frame: inputs of a given energy, packets of given symbols. */
final class Frames {
    private Frames() {}

    static void setFrom(PvqBandCodec x, int from, int... values) {
        for (int i = 0; i < values.length; i++) {
            x.setCoef(from + i, values[i]);
        }
    }

    static void put(PvqBandCodec x, int... bytes) {
        for (int i = 0; i < bytes.length; i++) {
            x.putByte(i, bytes[i]);
        }
    }

    static PvqBandCodec codec(int[] k) {
        return new PvqBandCodec(k[0], k[1], k[2], k[3]);
    }

    /** A new object that holds this packet. */
    static PvqBandCodec holding(int[] k, int... bytes) {
        PvqBandCodec x = codec(k);
        put(x, bytes);
        return x;
    }

    /** Gives a band inputs whose energy is 2^(q-1), or the greatest one for q = 33. */
    static void loudness(PvqBandCodec x, int band, int q) {
        setFrom(x, 8 * band, 0, 0, 0, 0, 0, 0, 0, 0);
        int equals = q > 31 ? 8 : q == 31 ? 4 : q % 2 == 0 ? 2 : 1;
        int each = q > 32 ? 32767 : q > 30 ? 1 << 14 : 1 << ((q - 1) / 2);
        for (int j = 0; j < equals && q > 0; j++) {
            x.setCoef(8 * band + j, each);
        }
    }

    static int[] energies(PvqBandCodec x, int side) {
        int[] q = new int[4];
        for (int b = 0; b < 4; b++) {
            q[b] = x.energyQ(side, b);
        }
        return q;
    }

    static int[] pulses(PvqBandCodec x, int side, int band) {
        int[] y = new int[8];
        for (int j = 0; j < 8; j++) {
            y[j] = x.pulse(side, 8 * band + j);
        }
        return y;
    }

    /**
     * Encodes a frame and holds its packet against the document's words; the answer tells which
     * limits the frame stood on.
     */
    static SpelledEncoder encode(Check check, String when, PvqBandCodec x) {
        int[] before = energies(x, 0);
        int length = x.encodeFrame();
        SpelledEncoder e = new SpelledEncoder();
        for (int b = 0; b < 4; b++) {
            int[] y = pulses(x, 0, b);
            int k = 0;
            for (int value : y) {
                k += Math.abs(value);
            }
            e.energy(Symbols.zigzag(x.energyQ(0, b) - Symbols.predict(before[b])));
            e.uniform(Model.index(y), Model.size(8, k));
        }
        int[] bytes = e.flush();
        check.due(when + ": encodeFrame()", length, bytes.length);
        duePacket(check, when, x, bytes);
        return e;
    }

    static void duePacket(Check check, String when, PvqBandCodec x, int... bytes) {
        check.due(when + ": packetLength()", x.packetLength(), bytes.length);
        for (int i = 0; i < bytes.length; i++) {
            check.due(when + ": packetByte(" + i + ")", x.packetByte(i), bytes[i]);
        }
        check.due(when + ": packetByte(" + bytes.length + ")", x.packetByte(bytes.length), -1000000);
    }

    /**
     * Decodes the object's packet and holds energies and pulses against the document's words; the
     * answer tells which limits the frame stood on.
     */
    static SpelledDecoder decode(Check check, String when, PvqBandCodec x, int... k) {
        int[] before = energies(x, 1);
        int[] bytes = new int[x.packetLength()];
        for (int i = 0; i < bytes.length; i++) {
            bytes[i] = x.packetByte(i);
        }
        x.decodeFrame();
        SpelledDecoder d = new SpelledDecoder(k, bytes);
        for (int b = 0; b < 4; b++) {
            int q = Model.clamp(Symbols.predict(before[b]) + Symbols.back(d.symbols[b]), 0, 33);
            check.due(when + ": energyQ(1, " + b + ")", x.energyQ(1, b), q);
            int[] y = Model.unindex(8, k[b], d.indices[b]);
            for (int j = 0; j < 8; j++) {
                check.due(when + ": pulse(1, " + (8 * b + j) + ")", x.pulse(1, 8 * b + j), y[j]);
            }
        }
        return d;
    }
}
