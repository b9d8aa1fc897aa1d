import java.io.DataInputStream;
import java.io.IOException;
import java.io.InputStream;
import java.util.Set;
import java.util.TreeSet;

/** Rule 4: the compiled classes use nothing of the library but what LANGUAGE.md lists and the class needs. */
public final class LibraryTest {
    private static final Checks CHECKS = new Checks();
    private static final Set<String> ALLOWED = Set.of("java/lang/Object.<init>()V", "java/lang/System.arraycopy"
        + "(Ljava/lang/Object;ILjava/lang/Object;II)V", "java/lang/Math.min(II)I", "java/lang/Math.max(II)I",
        "java/lang/Math.abs(I)I", "java/lang/Math.floorMod(II)I", "java/lang/Integer.bitCount(I)I",
        "java/lang/Integer.compare(II)I");

    public static void main(String[] args) throws IOException {
        Set<String> all = new TreeSet<>(uses(FrameClocks.class));
        for (Class<?> inside : FrameClocks.class.getDeclaredClasses()) {
            all.addAll(uses(inside));
        }
        for (String use : all) {
            CHECKS.due("the class uses " + use, use.startsWith("FrameClocks") || ALLOWED.contains(use) ? 1 : 0, 1);
        }
        CHECKS.due("uses were found", all.contains("java/lang/Object.<init>()V") ? 1 : 0, 1);
        CHECKS.end();
    }

    /** Methods and fields that a class file names, each as owner.name and its type. */
    private static Set<String> uses(Class<?> one) throws IOException {
        try (InputStream file = one.getResourceAsStream("/" + one.getName() + ".class")) {
            return new Pool(new DataInputStream(file)).uses();
        }
    }

    /** The table of names at the head of a class file (The Java Virtual Machine Specification, 4.4). */
    private static final class Pool {
        private final int[] tags;
        private final int[] first;
        private final int[] second;
        private final String[] texts;

        Pool(DataInputStream in) throws IOException {
            in.skipBytes(8);
            int many = in.readUnsignedShort();
            tags = new int[many];
            first = new int[many];
            second = new int[many];
            texts = new String[many];
            for (int i = 1; i < many; i++) {
                tags[i] = in.readUnsignedByte();
                read(in, i);
                boolean isWide = tags[i] == 5 || tags[i] == 6;
                i += isWide ? 1 : 0;
            }
        }

        private void read(DataInputStream in, int i) throws IOException {
            switch (tags[i]) {
                case 1: texts[i] = in.readUTF(); break;
                case 3: case 4: in.readInt(); break;
                case 5: case 6: in.readLong(); break;
                case 7: case 8: case 16: case 19: case 20: first[i] = in.readUnsignedShort(); break;
                case 9: case 10: case 11: case 12: case 17: case 18:
                    first[i] = in.readUnsignedShort();
                    second[i] = in.readUnsignedShort();
                    break;
                case 15:
                    first[i] = in.readUnsignedByte();
                    second[i] = in.readUnsignedShort();
                    break;
                default: throw new IOException("no such tag: " + tags[i]);
            }
        }

        Set<String> uses() {
            Set<String> found = new TreeSet<>();
            for (int i = 1; i < tags.length; i++) {
                boolean isHandle = tags[i] == 15 || tags[i] == 17 || tags[i] == 18;
                if (isHandle) {
                    found.add("a lambda, a method reference or a joining of texts by +");
                } else if (tags[i] == 9 || tags[i] == 10 || tags[i] == 11) {
                    int type = second[i];
                    found.add(texts[first[first[i]]] + "." + texts[first[type]] + texts[second[type]]);
                }
            }
            return found;
        }
    }
}
