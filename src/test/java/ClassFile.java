import java.io.DataInputStream;
import java.io.IOException;
import java.nio.ByteBuffer;
import java.util.ArrayList;
import java.util.List;
import java.util.Set;
import java.util.TreeSet;

/** What stands in a compiled class: its methods, what each of them calls, and orders that LANGUAGE.md leaves out. */
final class ClassFile {
    private static final int TABLE_SWITCH = 0xaa, LOOKUP_SWITCH = 0xab, INVOKE_FROM = 0xb6, INVOKE_TO = 0xb9, INVOKE_DYNAMIC = 0xba;
    private static final int THROW = 0xbf, CAST = 0xc0, INSTANCE_OF = 0xc1, LOCK = 0xc2, UNLOCK = 0xc3, WIDE = 0xc4, STEP_BY = 0x84;
    // how many bytes an order has: rows of the first order, the last order and the length; all others have one
    private static final int[][] LENGTHS = {
        {0x10, 0x10, 2}, {0x11, 0x11, 3}, {0x12, 0x12, 2}, {0x13, 0x14, 3}, {0x15, 0x19, 2}, {0x36, 0x3a, 2}, {0x84, 0x84, 3},
        {0x99, 0xa8, 3}, {0xa9, 0xa9, 2}, {0xb2, 0xb8, 3}, {0xb9, 0xba, 5}, {0xbb, 0xbb, 3}, {0xbc, 0xbc, 2}, {0xbd, 0xbd, 3},
        {0xc0, 0xc1, 3}, {0xc5, 0xc5, 4}, {0xc6, 0xc7, 3}, {0xc8, 0xc9, 5}};

    record Code(String name, int access, Set<String> calls, int catches, Set<String> notAllowed) { }

    private final DataInputStream in;
    private String[] texts;
    private int[][] pairs;

    private ClassFile(DataInputStream in) {
        this.in = in;
    }

    static List<Code> read(Class<?> c) throws IOException {
        try (DataInputStream in = new DataInputStream(c.getResourceAsStream(c.getName() + ".class"))) {
            return new ClassFile(in).methods();
        }
    }

    /** Fields and methods that a class uses, its own and others, by owner and name. */
    static Set<String> usedBy(Class<?> c) throws IOException {
        Set<String> used = new TreeSet<>();
        try (DataInputStream in = new DataInputStream(c.getResourceAsStream(c.getName() + ".class"))) {
            ClassFile file = new ClassFile(in);
            for (int index : file.constants()) {
                used.add(file.ownerAt(index) + "." + file.texts[file.pairs[file.pairs[index][1]][0]]);
            }
        }
        return used;
    }

    /** Reads the table of constants: which of them are fields and methods. */
    private List<Integer> constants() throws IOException {
        List<Integer> members = new ArrayList<>();
        in.readLong();
        int n = in.readUnsignedShort();
        texts = new String[n];
        pairs = new int[n][2];
        for (int i = 1; i < n; i++) {
            int tag = in.readUnsignedByte();
            if (tag == 9 || tag == 10 || tag == 11) {
                members.add(i);
            }
            switch (tag) {
                case 1: texts[i] = in.readUTF(); break;
                case 5: case 6: in.readLong(); i++; break;
                case 7: case 8: case 16: case 19: case 20: pairs[i][0] = in.readUnsignedShort(); break;
                case 15: in.readUnsignedByte(); in.readUnsignedShort(); break;
                default: pairs[i][0] = in.readUnsignedShort(); pairs[i][1] = in.readUnsignedShort();
            }
        }
        return members;
    }

    private String ownerAt(int index) {
        return texts[pairs[pairs[index][0]][0]];
    }

    private String memberAt(int index) {
        int named = pairs[index][1];
        return ownerAt(index) + "." + texts[pairs[named][0]] + texts[pairs[named][1]];
    }

    private List<Code> methods() throws IOException {
        constants();
        in.readUnsignedShort();
        String owner = texts[pairs[in.readUnsignedShort()][0]];
        in.readUnsignedShort();
        in.skipBytes(2 * in.readUnsignedShort());
        List<Code> all = new ArrayList<>();
        members(owner, null);
        members(owner, all);
        return all;
    }

    /** Fields or methods: of methods the code is looked at. */
    private void members(String owner, List<Code> into) throws IOException {
        int n = in.readUnsignedShort();
        for (int i = 0; i < n; i++) {
            int access = in.readUnsignedShort();
            String name = owner + "." + texts[in.readUnsignedShort()] + texts[in.readUnsignedShort()];
            int attributes = in.readUnsignedShort();
            for (int k = 0; k < attributes; k++) {
                String what = texts[in.readUnsignedShort()];
                byte[] bytes = in.readNBytes(in.readInt());
                if (into != null && what.equals("Code")) {
                    into.add(codeOf(name, access, ByteBuffer.wrap(bytes)));
                }
            }
        }
    }

    private Code codeOf(String name, int access, ByteBuffer bytes) {
        int start = 8;
        int end = start + bytes.getInt(4);
        Set<String> calls = new TreeSet<>();
        Set<String> notAllowed = new TreeSet<>();
        for (int at = start; at < end; at += lengthAt(bytes, at, start)) {
            int order = bytes.get(at) & 255;
            if (order >= INVOKE_FROM && order <= INVOKE_TO) {
                calls.add(memberAt(bytes.getChar(at + 1)));
            }
            if (order == THROW || order == CAST || order == INSTANCE_OF || order == LOCK || order == UNLOCK || order == INVOKE_DYNAMIC) {
                notAllowed.add(Integer.toHexString(order));
            }
        }
        return new Code(name, access, calls, bytes.getChar(end), notAllowed);
    }

    private static int lengthAt(ByteBuffer bytes, int at, int start) {
        int order = bytes.get(at) & 255;
        int aligned = at + 4 - (at - start) % 4;
        if (order == TABLE_SWITCH) {
            return aligned + 12 + 4 * (bytes.getInt(aligned + 8) - bytes.getInt(aligned + 4) + 1) - at;
        }
        if (order == LOOKUP_SWITCH) {
            return aligned + 8 + 8 * bytes.getInt(aligned + 4) - at;
        }
        if (order == WIDE) {
            return (bytes.get(at + 1) & 255) == STEP_BY ? 6 : 4;
        }
        for (int[] row : LENGTHS) {
            if (order >= row[0] && order <= row[1]) {
                return row[2];
            }
        }
        return 1;
    }
}
