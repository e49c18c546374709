import java.io.DataInputStream;
import java.io.IOException;
import java.io.InputStream;
import java.util.ArrayList;
import java.util.List;
import java.util.Map;
import java.util.TreeMap;
import java.util.TreeSet;

/** What a compiled class says of itself: the methods that its methods call, and the operations that they use. */
final class ClassFile {
  static final int DYNAMIC = 0xba;
  static final int THROW = 0xbf;
  static final int ENTER = 0xc2;
  static final int EXIT = 0xc3;

  private static final int TABLE = 0xaa;
  private static final int LOOKUP = 0xab;
  private static final int WIDE = 0xc4;
  private static final int INCREMENT = 0x84;
  private static final int VIRTUAL = 0xb6;
  private static final int INTERFACE = 0xb9;

  final String name;
  /** By method (owner.name and types), the methods that it calls. */
  final Map<String, TreeSet<String>> calls = new TreeMap<>();
  final TreeSet<Integer> operations = new TreeSet<>();
  int caught;

  private final String[] texts;
  private final int[] one;
  private final int[] two;

  ClassFile(Class<?> type) throws IOException {
    try (InputStream stream = type.getResourceAsStream("/" + type.getName() + ".class");
        DataInputStream in = new DataInputStream(stream)) {
      in.readInt();
      in.readInt();
      int size = in.readUnsignedShort();
      texts = new String[size];
      one = new int[size];
      two = new int[size];
      readConstants(in, size);
      in.readUnsignedShort();
      name = className(in.readUnsignedShort());
      in.readUnsignedShort();
      in.skipNBytes(2L * in.readUnsignedShort());
      readMembers(in, false);
      readMembers(in, true);
    }
  }

  private void readConstants(DataInputStream in, int size) throws IOException {
    for (int k = 1; k < size; k++) {
      int tag = in.readUnsignedByte();
      switch (tag) {
        case 1 -> texts[k] = in.readUTF();
        case 5, 6 -> {
          in.readLong();
          k++;
        }
        case 7, 8, 16, 19, 20 -> one[k] = in.readUnsignedShort();
        case 15 -> in.skipNBytes(3);
        default -> {
          one[k] = in.readUnsignedShort();
          two[k] = in.readUnsignedShort();
        }
      }
    }
  }

  private String className(int k) {
    return texts[one[k]];
  }

  private String methodName(int k) {
    return className(one[k]) + "." + texts[one[two[k]]] + texts[two[two[k]]];
  }

  private void readMembers(DataInputStream in, boolean isMethod) throws IOException {
    int size = in.readUnsignedShort();
    for (int k = 0; k < size; k++) {
      in.readUnsignedShort();
      String member = name + "." + texts[in.readUnsignedShort()] + texts[in.readUnsignedShort()];
      int attributes = in.readUnsignedShort();
      if (isMethod) {
        calls.put(member, new TreeSet<>());
      }
      for (int a = 0; a < attributes; a++) {
        String attribute = texts[in.readUnsignedShort()];
        byte[] bytes = new byte[in.readInt()];
        in.readFully(bytes);
        if (attribute.equals("Code")) {
          readCode(bytes, calls.get(member));
        }
      }
    }
  }

  private void readCode(byte[] bytes, TreeSet<String> called) {
    int start = 8;
    int end = start + word(bytes, 4);
    for (int at = start; at < end; at += length(bytes, at, start)) {
      int operation = bytes[at] & 255;
      operations.add(operation);
      if (operation >= VIRTUAL && operation <= INTERFACE) {
        called.add(methodName(half(bytes, at + 1)));
      }
    }
    caught += half(bytes, end);
  }

  private static int half(byte[] bytes, int at) {
    return (bytes[at] & 255) << 8 | bytes[at + 1] & 255;
  }

  private static int word(byte[] bytes, int at) {
    return half(bytes, at) << 16 | half(bytes, at + 2);
  }

  /** How many bytes an operation takes with what belongs to it. */
  private static int length(byte[] bytes, int at, int start) {
    int operation = bytes[at] & 255;
    int aligned = at + 4 - (at - start) % 4;
    switch (operation) {
      case TABLE: return aligned + 12 + 4 * (word(bytes, aligned + 8) - word(bytes, aligned + 4) + 1) - at;
      case LOOKUP: return aligned + 8 + 8 * word(bytes, aligned + 4) - at;
      case WIDE: return (bytes[at + 1] & 255) == INCREMENT ? 6 : 4;
      default: return plainLength(operation);
    }
  }

  private static int plainLength(int o) {
    if (o == 0xb9 || o == DYNAMIC || o == 0xc8 || o == 0xc9) {
      return 5;
    }
    if (o == 0xc5) {
      return 4;
    }
    if (o == 0x11 || o == 0x13 || o == 0x14 || o == INCREMENT || o >= 0x99 && o <= 0xa8 || o >= 0xb2 && o <= 0xb8
        || o == 0xbb || o == 0xbd || o == 0xc0 || o == 0xc1 || o == 0xc6 || o == 0xc7) {
      return 3;
    }
    boolean two = o == 0x10 || o == 0x12 || o >= 0x15 && o <= 0x19 || o >= 0x36 && o <= 0x3a || o == 0xa9 || o == 0xbc;
    return two ? 2 : 1;
  }

  /** All methods that are called, of the library and of one's own. */
  List<String> called() {
    TreeSet<String> all = new TreeSet<>();
    calls.values().forEach(all::addAll);
    return new ArrayList<>(all);
  }
}
