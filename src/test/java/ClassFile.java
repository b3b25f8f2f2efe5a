import java.io.DataInputStream;
import java.io.IOException;
import java.io.InputStream;
import java.util.TreeSet;

/** What a compiled class names of the library, read from its table of constants. */
final class ClassFile {
    private static final int UTF8 = 1, LONG = 5, DOUBLE = 6, CLASS = 7, STRING = 8, FIELD = 9, METHOD = 10, INTERFACE_METHOD = 11, NAME_AND_TYPE = 12;
    private static final int METHOD_HANDLE = 15, METHOD_TYPE = 16, MODULE = 19, PACKAGE = 20;

    private final int[] tags;
    private final int[] firsts;
    private final int[] seconds;
    private final String[] texts;

    private ClassFile(DataInputStream in) throws IOException {
        in.skipBytes(8);
        int size = in.readUnsignedShort();
        tags = new int[size];
        firsts = new int[size];
        seconds = new int[size];
        texts = new String[size];
        // the first one has number 1; longs and doubles take two numbers
        for (int i = 1; i < size; i += tags[i] == LONG || tags[i] == DOUBLE ? 2 : 1) {
            readConstant(in, i);
        }
    }

    private void readConstant(DataInputStream in, int i) throws IOException {
        tags[i] = in.readUnsignedByte();
        switch (tags[i]) {
            case UTF8:
                texts[i] = in.readUTF();
                break;
            case LONG:
            case DOUBLE:
                in.readLong();
                break;
            case CLASS:
            case STRING:
            case METHOD_TYPE:
            case MODULE:
            case PACKAGE:
                firsts[i] = in.readUnsignedShort();
                break;
            case METHOD_HANDLE:
                firsts[i] = in.readUnsignedByte();
                seconds[i] = in.readUnsignedShort();
                break;
            default:
                firsts[i] = in.readUnsignedShort();
                seconds[i] = in.readUnsignedShort();
                break;
        }
    }

    /** The fields and methods that a class names of classes other than PaneScenes and those inside it: "java.lang.Math.max". */
    static TreeSet<String> library(Class<?> of) throws IOException {
        String name = of.getName() + ".class";
        try (InputStream in = of.getResourceAsStream(name)) {
            if (in == null) {
                throw new IOException("there is no " + name);
            }
            return new ClassFile(new DataInputStream(in)).library();
        }
    }

    private TreeSet<String> library() {
        TreeSet<String> named = new TreeSet<>();
        for (int i = 1; i < tags.length; i++) {
            if (tags[i] == FIELD || tags[i] == METHOD || tags[i] == INTERFACE_METHOD) {
                String owner = texts[firsts[firsts[i]]].replace('/', '.');
                boolean isOwn = owner.equals("PaneScenes") || owner.startsWith("PaneScenes$");
                if (!isOwn && tags[seconds[i]] == NAME_AND_TYPE) {
                    named.add(owner + "." + texts[firsts[seconds[i]]]);
                }
            }
        }
        return named;
    }
}
