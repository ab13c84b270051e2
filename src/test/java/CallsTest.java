import java.io.DataInputStream;
import java.io.IOException;
import java.io.InputStream;
import java.nio.ByteBuffer;
import java.util.ArrayList;
import java.util.List;
import java.util.Map;
import java.util.Set;
import java.util.TreeMap;
import java.util.TreeSet;

/**
 * What of LANGUAGE.md is seen best in the compiled class: which of the library is called (rule 4),
 * what is thrown or made by hidden ways (2, 6), no recursion and at most eight calls deep (8, 11),
 * and that nothing is made but by constructors (12).
 */
public final class CallsTest {
    private static final Set<String> LIBRARY = Set.of("java/lang/Object.<init>", "java/lang/Math.max", "java/lang/Math.min",
        "java/lang/System.arraycopy");
    private static final int MOST_DEEP = 8;

    private static final int TABLESWITCH = 170, LOOKUPSWITCH = 171, INVOKEVIRTUAL = 182,
        INVOKEINTERFACE = 185, INVOKEDYNAMIC = 186, NEW = 187, ANEWARRAY = 189, ATHROW = 191, CHECKCAST = 192,
        MONITORENTER = 194, MONITOREXIT = 195, WIDE = 196, MULTIANEWARRAY = 197;
    // How long each instruction is: a row {the last number of a span, its length}.
    private static final int[][] LENGTHS = {{15, 1}, {16, 2}, {17, 3}, {18, 2}, {20, 3}, {25, 2}, {53, 1}, {58, 2}, {131, 1},
        {132, 3}, {152, 1}, {168, 3}, {169, 2}, {171, 0}, {177, 1}, {184, 3}, {186, 5}, {187, 3}, {188, 2}, {189, 3}, {191, 1},
        {193, 3}, {195, 1}, {196, 0}, {197, 4}, {199, 3}, {201, 5}};

    private static final Map<String, Set<String>> CALLS = new TreeMap<>();
    private static int wrong = 0;

    private static void fail(String what) {
        wrong++;
        System.out.println("not so: " + what);
    }

    public static void main(String[] args) throws IOException {
        List<Class<?>> all = new ArrayList<>(List.of(HungMargins.class.getDeclaredClasses()));
        all.add(HungMargins.class);
        for (Class<?> c : all) new ClassFile(c).readMethods();
        int deepest = 0;
        for (String method : CALLS.keySet()) deepest = Math.max(deepest, depth(method, new ArrayList<>()));
        if (deepest > MOST_DEEP) fail("calls go " + deepest + " deep");
        if (CALLS.size() < 100 || deepest < 5) fail("only " + CALLS.size() + " methods were read, " + deepest + " deep");
        System.out.println(CALLS.size() + " methods, " + deepest + " deep, " + wrong + " wrong");
        if (wrong != 0) System.exit(1);
    }

    private static int depth(String method, List<String> open) {
        if (open.contains(method)) {
            fail("recursion: " + open);
            return 0;
        }
        open.add(method);
        int deepest = 0;
        for (String called : CALLS.getOrDefault(method, Set.of())) deepest = Math.max(deepest, depth(called, open));
        open.remove(open.size() - 1);
        return deepest + 1;
    }

    /** One compiled class, read as the Java machine's own description of it tells. */
    private static final class ClassFile {
        private final DataInputStream in;
        private String[] texts;
        private int[] firsts;
        private int[] seconds;

        ClassFile(Class<?> c) throws IOException {
            InputStream stream = c.getResourceAsStream(c.getName() + ".class");
            if (stream == null) throw new IOException("no class file of " + c);
            in = new DataInputStream(stream);
        }

        void readMethods() throws IOException {
            in.skipBytes(8);
            readConstants();
            in.skipBytes(2);
            String owner = texts[firsts[in.readUnsignedShort()]];
            in.skipBytes(2);
            in.skipBytes(2 * in.readUnsignedShort());
            readMembers(owner, false);
            readMembers(owner, true);
            in.close();
        }

        private void readConstants() throws IOException {
            int count = in.readUnsignedShort();
            texts = new String[count];
            firsts = new int[count];
            seconds = new int[count];
            for (int i = 1; i < count; i++) {
                int kind = in.readUnsignedByte();
                switch (kind) {
                    case 1: texts[i] = in.readUTF(); break;
                    case 3: case 4: in.skipBytes(4); break;
                    case 5: case 6: in.skipBytes(8); i++; break;
                    case 7: case 8: case 16: case 19: case 20: firsts[i] = in.readUnsignedShort(); break;
                    case 15: in.skipBytes(3); break;
                    default: firsts[i] = in.readUnsignedShort(); seconds[i] = in.readUnsignedShort(); break;
                }
            }
        }

        private void readMembers(String owner, boolean methods) throws IOException {
            for (int left = in.readUnsignedShort(); left > 0; left--) {
                in.skipBytes(2);
                String name = texts[in.readUnsignedShort()];
                in.skipBytes(2);
                for (int attributes = in.readUnsignedShort(); attributes > 0; attributes--) {
                    boolean isCode = texts[in.readUnsignedShort()].equals("Code");
                    byte[] bytes = in.readNBytes(in.readInt());
                    if (methods && isCode) readCode(owner + "." + name, ByteBuffer.wrap(bytes));
                }
            }
        }

        private void readCode(String method, ByteBuffer code) {
            Set<String> called = CALLS.computeIfAbsent(method, m -> new TreeSet<>());
            // Ahead of the instructions: how deep the stack is, how many locals there are, how long all is.
            int begin = 8;
            int end = begin + code.getInt(4);
            for (int at = begin; at < end; at += length(code, at, begin)) {
                int op = code.get(at) & 255;
                if (op >= INVOKEVIRTUAL && op <= INVOKEINTERFACE) {
                    note(method, called, code.getShort(at + 1) & 65535);
                }
                boolean makes = op >= NEW && op <= ANEWARRAY;
                if (makes && !method.endsWith(".<init>") && !method.endsWith(".<clinit>")) fail(method + " makes something");
                if (op == INVOKEDYNAMIC || op == ATHROW || op == CHECKCAST || op == MONITORENTER || op == MONITOREXIT
                    || op == MULTIANEWARRAY) {
                    fail(method + " has the instruction " + op);
                }
            }
            if (code.getShort(end) != 0) fail(method + " catches something");
        }

        private void note(String method, Set<String> called, int constant) {
            String owner = texts[firsts[firsts[constant]]];
            String name = owner + "." + texts[firsts[seconds[constant]]];
            if (owner.startsWith("HungMargins")) {
                called.add(name);
            } else if (!LIBRARY.contains(name)) {
                fail(method + " calls " + name);
            }
        }

        private static int length(ByteBuffer code, int at, int begin) {
            int op = code.get(at) & 255;
            int table = at + 4 - (at - begin) % 4;
            if (op == TABLESWITCH) return table + 12 + 4 * (code.getInt(table + 8) - code.getInt(table + 4) + 1) - at;
            if (op == LOOKUPSWITCH) return table + 8 + 8 * code.getInt(table + 4) - at;
            if (op == WIDE) return (code.get(at + 1) & 255) == 132 ? 6 : 4;
            for (int[] span : LENGTHS) {
                if (op <= span[0]) return span[1];
            }
            throw new IllegalStateException("no such instruction: " + op);
        }
    }
}
