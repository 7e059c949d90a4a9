import java.io.IOException;
import java.lang.reflect.Constructor;
import java.lang.reflect.Field;
import java.lang.reflect.Method;
import java.lang.reflect.Modifier;
import java.nio.file.Files;
import java.nio.file.Path;
import java.util.Arrays;
import java.util.Set;
import java.util.TreeSet;

/** The constants, the constructor and the methods of the document's face, and no others to be seen. */
public final class FaceTest {
    private static final Check CHECK = new Check();
    private static final String[] METHODS = {
        "boolean setCoef[int, int]", "int coefAt[int]", "int encodeFrame[]", "int packetLength[]",
        "int packetByte[int]", "boolean putByte[int, int]", "void decodeFrame[]", "int energyQ[int, int]",
        "int pulse[int, int]", "int decodedCoef[int]", "boolean setVec[int, int]", "int vecAt[int]",
        "int vecIndex[int]", "boolean vecUnindex[int, int, int]", "int pyramidSize[int, int]"
    };
    private static final String[] CONSTANTS = {
        "NONE = -1000000", "BANDS = 4", "BAND_WIDTH = 8", "COEFS = 32", "PACKET_CAP = 64", "MAX_N = 8",
        "MAX_K = 16", "COEF_LIMIT = 32767", "Q_MAX = 33", "ENERGY_TOTAL = 150", "ENCODER = 0", "DECODER = 1"
    };

    private FaceTest() {}

    public static void main(String[] args) throws IOException, IllegalAccessException {
        Class<?> face = PvqBandCodec.class;
        CHECK.due("the class's modifiers", Modifier.toString(face.getModifiers()), "public final");
        CHECK.due("nested classes", face.getDeclaredClasses().length, 0);
        CHECK.due("interfaces", face.getInterfaces().length, 0);
        constructor(face);
        methods(face);
        fields(face);
        documentsFace();
        CHECK.finish();
    }

    /** The lists above are the document's, and the source has its very signatures. */
    private static void documentsFace() throws IOException {
        Document document = new Document();
        String source = Files.readString(Path.of("src/main/java/PvqBandCodec.java"));
        CHECK.due("the document's constants", document.constants().toString(), Arrays.toString(CONSTANTS));
        CHECK.due("the document's signatures", document.signatures().size(), METHODS.length + 1);
        for (String signature : document.signatures()) {
            CHECK.due("public " + signature, source.contains("    public " + signature + " {"), true);
        }
    }

    private static void constructor(Class<?> face) {
        Constructor<?>[] all = face.getDeclaredConstructors();
        CHECK.due("constructors", all.length, 1);
        CHECK.due("the constructor", all[0].toString(), "public PvqBandCodec(int,int,int,int)");
    }

    private static void methods(Class<?> face) {
        Set<String> seen = new TreeSet<>();
        Set<String> names = new TreeSet<>();
        for (Method m : face.getDeclaredMethods()) {
            if (Modifier.isPrivate(m.getModifiers())) {
                continue;
            }
            names.add(m.getName());
            CHECK.due("the modifiers of " + m.getName(), Modifier.toString(m.getModifiers()), "public");
            seen.add(m.getReturnType() + " " + m.getName() + Arrays.toString(m.getParameterTypes()));
        }
        CHECK.due("the methods", seen.toString(), new TreeSet<>(Arrays.asList(METHODS)).toString());
        for (Method m : face.getDeclaredMethods()) {
            boolean hidden = Modifier.isPrivate(m.getModifiers());
            CHECK.due("a private " + m.getName(), hidden && names.contains(m.getName()), false);
            CHECK.due("at most seven parameters in " + m.getName(), m.getParameterCount() <= 7, true);
        }
    }

    private static void fields(Class<?> face) throws IllegalAccessException {
        Set<String> seen = new TreeSet<>();
        int kept = 0;
        for (Field f : face.getDeclaredFields()) {
            int modifiers = f.getModifiers();
            if (Modifier.isStatic(modifiers)) {
                boolean number = f.getType() == int.class || f.getType() == long.class;
                CHECK.due(f.getName() + " is a final number", number && Modifier.isFinal(modifiers), true);
            } else {
                kept++;
                Class<?> single = f.getType().isArray() ? f.getType().getComponentType() : f.getType();
                boolean plain = single.isPrimitive() && single != float.class && single != double.class;
                CHECK.due(f.getName() + " is a whole number or an array of them", plain, true);
            }
            if (!Modifier.isPrivate(modifiers)) {
                CHECK.due("the modifiers of " + f.getName(), Modifier.toString(modifiers), "public static final");
                CHECK.due("the type of " + f.getName(), f.getType().getName(), "int");
                seen.add(f.getName() + " = " + f.getInt(null));
            }
        }
        CHECK.due("the constants", seen.toString(), new TreeSet<>(Arrays.asList(CONSTANTS)).toString());
        CHECK.due("at most forty fields", kept <= 40, true);
    }
}
