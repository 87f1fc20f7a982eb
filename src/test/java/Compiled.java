import java.io.ByteArrayInputStream;
import java.io.DataInputStream;
import java.io.IOException;
import java.io.InputStream;
import java.util.LinkedHashMap;
import java.util.LinkedHashSet;
import java.util.Map;
import java.util.Set;

/** One compiled class: which methods it has, what each of them calls, and what it should not have. */
final class Compiled {
    final Map<String, Set<String>> calls = new LinkedHashMap<>();
    final Set<String> odd = new LinkedHashSet<>();
    int fields = 0;
    private final String name;
    private Object[] pool;
    private int[][] pairs;

    Compiled(String name) throws IOException {
        this.name = name;
        try (InputStream in = StormParting.class.getResourceAsStream(name + ".class")) {
            read(new DataInputStream(new ByteArrayInputStream(in.readAllBytes())));
        }
    }

    private void read(DataInputStream in) throws IOException {
        in.readInt();
        in.readInt();
        readPool(in);
        in.readUnsignedShort();
        in.readUnsignedShort();
        in.readUnsignedShort();
        for (int n = in.readUnsignedShort(); n > 0; n--) {
            in.readUnsignedShort();
        }
        for (int n = in.readUnsignedShort(); n > 0; n--) {
            boolean isStatic = (in.readUnsignedShort() & 8) != 0;
            in.readInt();
            fields += isStatic ? 0 : 1;
            skipAttributes(in);
        }
        for (int n = in.readUnsignedShort(); n > 0; n--) {
            in.readUnsignedShort();
            String method = name + "." + pool[in.readUnsignedShort()] + pool[in.readUnsignedShort()];
            calls.put(method, new LinkedHashSet<>());
            for (int k = in.readUnsignedShort(); k > 0; k--) {
                String attribute = (String) pool[in.readUnsignedShort()];
                byte[] body = in.readNBytes(in.readInt());
                if (attribute.equals("Code")) {
                    readCode(method, new DataInputStream(new ByteArrayInputStream(body)));
                }
            }
        }
    }

    private void readPool(DataInputStream in) throws IOException {
        int size = in.readUnsignedShort();
        pool = new Object[size];
        pairs = new int[size][];
        for (int i = 1; i < size; i++) {
            int tag = in.readUnsignedByte();
            switch (tag) {
                case 1: pool[i] = in.readUTF(); break;
                case 3: case 4: in.readInt(); break;
                case 5: case 6: in.readLong(); i++; break;
                case 7: case 8: case 16: case 19: case 20: pairs[i] = new int[] {in.readUnsignedShort()}; break;
                case 15: in.readUnsignedByte(); in.readUnsignedShort(); break;
                default: pairs[i] = new int[] {in.readUnsignedShort(), in.readUnsignedShort()}; break;
            }
        }
    }

    private static void skipAttributes(DataInputStream in) throws IOException {
        for (int n = in.readUnsignedShort(); n > 0; n--) {
            in.readUnsignedShort();
            in.readNBytes(in.readInt());
        }
    }

    private void readCode(String method, DataInputStream in) throws IOException {
        in.readInt();
        byte[] code = in.readNBytes(in.readInt());
        if (in.readUnsignedShort() != 0) {
            odd.add(method + " catches");
        }
        for (int at = 0; at < code.length; at += lengthAt(code, at)) {
            int op = code[at] & 255;
            if (op >= 182 && op <= 185) {
                calls.get(method).add(called(short2(code, at + 1)));
            }
            if (op == 186) {
                odd.add(method + " has a lambda, a method reference or a text joined by +");
            }
            if (op == 108 || op == 112) {
                odd.add(method + " divides");
            }
            if (op == 192) {
                odd.add(method + " casts");
            }
        }
    }

    private String called(int member) {
        int[] nameAndType = pairs[pairs[member][1]];
        return pool[pairs[pairs[member][0]][0]] + "." + pool[nameAndType[0]] + pool[nameAndType[1]];
    }

    private static int short2(byte[] code, int at) {
        return (code[at] & 255) << 8 | code[at + 1] & 255;
    }

    private static int int4(byte[] code, int at) {
        return short2(code, at) << 16 | short2(code, at + 2);
    }

    private static int lengthAt(byte[] code, int at) {
        int op = code[at] & 255;
        int table = at + 4 - at % 4;
        if (op == 170) {
            return table + 12 + 4 * (int4(code, table + 8) - int4(code, table + 4) + 1) - at;
        }
        if (op == 171) {
            return table + 8 + 8 * int4(code, table + 4) - at;
        }
        if (op == 196) {
            return (code[at + 1] & 255) == 132 ? 6 : 4;
        }
        if (op == 185 || op == 186 || op == 200 || op == 201) {
            return 5;
        }
        if (op == 197) {
            return 4;
        }
        boolean three = op == 17 || op == 19 || op == 20 || op == 132 || op >= 153 && op <= 168 || op >= 178 && op <= 184
            || op == 187 || op == 189 || op == 192 || op == 193 || op == 198 || op == 199;
        boolean two = op == 16 || op == 18 || op >= 21 && op <= 25 || op >= 54 && op <= 58 || op == 169 || op == 188;
        return three ? 3 : two ? 2 : 1;
    }
}
