import java.util.LinkedHashMap;
import java.util.Map;
import java.util.function.Consumer;
import java.util.function.ToIntFunction;

/** The boundary sentences of 'What it is', over every call that can be refused and every clamp. */
public final class WhatItIsBoundaryTest {
    private static final Check CHECK = new Check();
    private static final int MIN = Integer.MIN_VALUE;
    private static final int MAX = Integer.MAX_VALUE;

    private WhatItIsBoundaryTest() {}

    public static void main(String[] args) {
        refusedIntegersAreNone();
        refusedCallsChangeNothing();
        clampsMapBelowAndAbove();
        parsesAnyPacket();
        CHECK.finish();
    }

    private static Map<String, ToIntFunction<PvqBandCodec>> refusedIntegers() {
        Map<String, ToIntFunction<PvqBandCodec>> calls = new LinkedHashMap<>();
        for (int at : new int[] {MIN, -1000000, -1, 32, 33, MAX}) {
            calls.put("coefAt(" + at + ")", x -> x.coefAt(at));
            calls.put("decodedCoef(" + at + ")", x -> x.decodedCoef(at));
            calls.put("pulse(0, " + at + ")", x -> x.pulse(0, at));
            calls.put("pulse(1, " + at + ")", x -> x.pulse(1, at));
            calls.put("energyQ(" + at + ", 0)", x -> x.energyQ(at, 0));
            calls.put("pulse(" + at + ", 0)", x -> x.pulse(at, 0));
        }
        for (int at : new int[] {MIN, -1, 4, 5, MAX}) {
            calls.put("energyQ(0, " + at + ")", x -> x.energyQ(0, at));
            calls.put("energyQ(1, " + at + ")", x -> x.energyQ(1, at));
        }
        for (int at : new int[] {MIN, -1, 63, 64, 65, MAX}) {
            calls.put("packetByte(" + at + ")", x -> x.packetByte(at));
        }
        for (int at : new int[] {MIN, -1, 8, 9, MAX}) {
            calls.put("vecAt(" + at + ")", x -> x.vecAt(at));
        }
        for (int n : new int[] {MIN, -1, 0, 9, MAX}) {
            calls.put("vecIndex(" + n + ")", x -> x.vecIndex(n));
        }
        for (int n : new int[] {MIN, -1, 9, MAX}) {
            calls.put("pyramidSize(" + n + ", 0)", x -> x.pyramidSize(n, 0));
        }
        for (int k : new int[] {MIN, -1, 17, MAX}) {
            calls.put("pyramidSize(0, " + k + ")", x -> x.pyramidSize(0, k));
            calls.put("pyramidSize(8, " + k + ")", x -> x.pyramidSize(8, k));
        }
        return calls;
    }

    private static Map<String, Consumer<PvqBandCodec>> refusedChanges() {
        Map<String, Consumer<PvqBandCodec>> calls = new LinkedHashMap<>();
        for (int at : new int[] {MIN, -1, 32, MAX}) {
            put(calls, "setCoef(" + at + ", 999)", x -> x.setCoef(at, 999));
        }
        for (int at : new int[] {MIN, -1, 30, 63, 64, 65, MAX}) {
            put(calls, "putByte(" + at + ", 99)", x -> x.putByte(at, 99));
        }
        for (int at : new int[] {MIN, -1, 8, MAX}) {
            put(calls, "setVec(" + at + ", 9)", x -> x.setVec(at, 9));
        }
        int[][] noVectors = {
            {0, 0, 0}, {9, 1, 0}, {MIN, 1, 0}, {MAX, 1, 0}, {3, -1, 0}, {3, 17, 0}, {3, MIN, 0}, {3, MAX, 0},
            {3, 4, -1}, {3, 4, MIN}, {3, 4, 66}, {3, 4, MAX}, {8, 16, 15158272}, {1, 0, 1}, {1, 5, 2}
        };
        for (int[] a : noVectors) {
            put(calls, "vecUnindex(" + a[0] + ", " + a[1] + ", " + a[2] + ")", x -> x.vecUnindex(a[0], a[1], a[2]));
        }
        return calls;
    }

    private interface Call {
        boolean on(PvqBandCodec x);
    }

    private static void put(Map<String, Consumer<PvqBandCodec>> calls, String name, Call call) {
        calls.put(name, x -> CHECK.due(name, call.on(x), false));
    }

    private static void refusedIntegersAreNone() {
        CHECK.sentence("Integer answers that are refused are `NONE`.");
        CHECK.due("NONE", PvqBandCodec.NONE, -1000000);
        PvqBandCodec fresh = new PvqBandCodec(1, 1, 1, 1);
        PvqBandCodec busy = State.busy();
        refusedIntegers().forEach((name, call) -> {
            CHECK.due("fresh: " + name, call.applyAsInt(fresh), -1000000);
            CHECK.due("busy: " + name, call.applyAsInt(busy), -1000000);
        });
    }

    private static void refusedCallsChangeNothing() {
        CHECK.sentence("A refused call changes nothing.");
        refusedChanges().forEach((name, call) -> {
            dueNothing(name, call);
        });
        refusedIntegers().forEach((name, call) -> {
            dueNothing(name, call::applyAsInt);
        });
        // Too many pulses: the only refusal that hangs on the cells and not on the arguments.
        dueNothing("vecIndex(8) of 17", x -> {
            x.setVec(0, 2);
            CHECK.due("vecIndex(8) of 14", x.vecIndex(8) >= 0, true);
            x.setVec(0, 5);
            CHECK.due("vecIndex(8) of 17", x.vecIndex(8), -1000000);
            x.setVec(0, -4);
        });
    }

    private static void dueNothing(String name, Consumer<PvqBandCodec> call) {
        Twins busy = new Twins(State::busy);
        call.accept(busy.touched);
        busy.dueSame(CHECK, name);
    }

    private static void clampsMapBelowAndAbove() {
        CHECK.sentence("A clamp into [lo,hi] maps values below lo to lo, values above hi to hi, and leaves other values"
                + " unchanged.");
        PvqBandCodec x = new PvqBandCodec(1, 1, 1, 1);
        for (int value = -32770; value <= 32770; value++) {
            x.setCoef(17, value);
            CHECK.due("coefAt(17) after " + value, x.coefAt(17),
                    value < -32767 ? -32767 : value > 32767 ? 32767 : value);
        }
        for (int value = -20; value <= 20; value++) {
            x.setVec(4, value);
            CHECK.due("vecAt(4) after " + value, x.vecAt(4), value < -16 ? -16 : value > 16 ? 16 : value);
            PvqBandCodec counted = new PvqBandCodec(1, 1, value, 1);
            counted.encodeFrame();
            CHECK.due("pulses of K2 = " + value, counted.pulse(0, 16), value < 1 ? 1 : value > 16 ? 16 : value);
        }
    }

    private static void parsesAnyPacket() {
        CHECK.sentence("A separate decoder state, with its own prediction memory, parses any packet, including one"
                + " edited byte by byte, back into energies, pulse vectors and a scaled spectrum.");
        int[] k = {2, 6, 11, 16};
        PvqBandCodec x = Frames.codec(k);
        Numbers numbers = new Numbers(31);
        for (int length = 1; length <= 64; length++) {
            x.putByte(length - 1, numbers.below(256));
            for (int edit = 0; edit < 20; edit++) {
                x.putByte(numbers.below(length), edit % 3 == 0 ? 255 : numbers.below(256));
                Frames.decode(CHECK, "length " + length + " edit " + edit, x, k);
            }
        }
    }
}
