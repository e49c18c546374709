import java.io.IOException;
import java.nio.charset.StandardCharsets;
import java.nio.file.Files;
import java.nio.file.Path;

/** The lines of README.md that show how to use the class: each stands there, and answers what is said behind it. */
public final class ReadmeTest {
  private static String readme;
  private static int wrong = 0;

  private ReadmeTest() { }

  public static void main(String[] args) throws IOException {
    readme = Files.readString(Path.of("README.md"), StandardCharsets.UTF_8);
    RowAuditor x = new RowAuditor();
    int till = x.house(1000);
    shown("int till = x.house(1000);", till, 0);
    shown("x.now(3);", x.now(3) ? 1 : 0, 1);
    int i = x.row(1, till, 7, 2, 14, 250, 4, -1, -1);
    shown("int i = x.row(1, till, 7, 2, 14, 250, 4, -1, -1);", i, 0);
    shown("x.feed(0x7228733E, 0x32303026, 0x763C3029, 0, 0);",
        x.feed(0x7228733E, 0x32303026, 0x763C3029, 0, 0), 20);
    shown("int r = x.rule(0, 3999, 12);", x.rule(0, 3999, 12), 0);
    shown("x.broken(i, 3);", x.broken(i, 3), 0);
    shown("x.findings(3);", x.findings(3), 1);
    shown("x.clear(i, 9);", x.clear(i, 9) ? 1 : 0, 1);
    shown("no FINDING any more", x.findings(3), 0);
    shown("x.rule(0, 3999, write(x, \"l(k=1&[s-50]/d>99)\"));", x.rule(0, 3999, write(x, "l(k=1&[s-50]/d>99)")), 1);
    shown("broken(i, 3) is -2 now", x.broken(i, 3), -2);
    shown("x.chain(write(x, \"(k=0);(k=1)pw\"));", x.chain(write(x, "(k=0);(k=1)pw")), 0);
    shown("x.rule(0, 3999, write(x, \"r(s>200&)\"));", x.rule(0, 3999, write(x, "r(s>200&)")), -1008);
    System.out.println(wrong + " lines of README.md not so");
    if (wrong != 0) {
      System.exit(1);
    }
  }

  private static void shown(String line, int got, int want) {
    if (!readme.contains(line)) {
      wrong++;
      System.out.println("README.md does not say: " + line);
    }
    if (got != want) {
      wrong++;
      System.out.println(line + " answered " + got + ", README.md says " + want);
    }
  }

  /** As README.md shows it. */
  private static int write(RowAuditor x, String text) {
    for (int p = 0; p < text.length(); p += 20) {
      int[] words = new int[5];
      for (int k = 0; k < 20; k++) {
        words[k / 4] = words[k / 4] << 8 | (p + k < text.length() ? text.charAt(p + k) : 0);
      }
      x.feed(words[0], words[1], words[2], words[3], words[4]);
    }
    return text.length();
  }
}
