import java.io.IOException;
import java.nio.charset.StandardCharsets;
import java.nio.file.Files;
import java.nio.file.Path;

/** What the tests share: a drive, sending texts to it, and counting answers that are not as due. */
final class Check {
  private static int wrong = 0;
  private static int made = 0;
  private static String sentence = "";
  private static String document;

  Drive drive = new Drive();

  /**
   * The test of a sentence. Words that don't stand in the document any more are told, so that no test outlives
   * its sentence unseen; that alone is no wrong answer, as a document may be worded anew (-Ddocument tells
   * where it is; without it that isn't looked at).
   */
  static void sentence(String words, Runnable test) {
    sentence = words;
    if (!inDocument(words)) {
      System.out.println("note: not in the document: " + words);
    }
    int before = made;
    test.run();
    if (made == before) {
      due("the test asks for something", 1, 0);
    }
    sentence = "";
  }

  private static boolean inDocument(String words) {
    String path = System.getProperty("document");
    if (path == null || !Files.isRegularFile(Path.of(path))) {
      return true;
    }
    try {
      document = document == null ? Files.readString(Path.of(path)).replaceAll("\\s+", " ") : document;
    } catch (IOException e) {
      throw new IllegalStateException(e);
    }
    return document.contains(words);
  }

  static void due(String what, long want, long got) {
    made++;
    if (want != got) {
      tell(what, "" + want, "" + got);
    }
  }

  static void due(String what, boolean want, boolean got) {
    due(what, want ? 1 : 0, got ? 1 : 0);
  }

  static void due(String what, String want, String got) {
    made++;
    if (!want.equals(got)) {
      tell(what, shown(want), shown(got));
    }
  }

  private static void tell(String what, String want, String got) {
    wrong++;
    System.out.println((sentence.isEmpty() ? "" : "[" + sentence + "] ") + what + " answered " + got + ", due is " + want);
  }

  /** Ends a test: exit code 1 if an answer was wrong. */
  static void end() {
    System.out.println(made + " answers, " + wrong + " not as due");
    if (wrong != 0 || made == 0) {
      System.exit(1);
    }
  }

  static String shown(String text) {
    String row = text.replace("\r", "\\r");
    return "<" + (row.length() > 200 ? row.substring(0, 200) + "..>, hash " + row.hashCode() : row + ">");
  }

  static byte[] bytes(String text) {
    return text.getBytes(StandardCharsets.ISO_8859_1);
  }

  static String text(int... bytes) {
    StringBuilder text = new StringBuilder();
    for (int one : bytes) {
      text.append((char) (one & 255));
    }
    return text.toString();
  }

  static String many(int count) {
    StringBuilder text = new StringBuilder();
    for (int i = 0; i < count; i++) {
      text.append((char) (i * 7 + 3 & 255));
    }
    return text.toString();
  }

  /** A NAME as it lies on the disk. */
  static String padded(String name) {
    return name + "\u00A0".repeat(10 - name.length());
  }

  static Check formatted() {
    Check check = new Check();
    check.command("N:DISK,AB");
    return check;
  }

  // ---- what is sent and read ----

  /** Puts a text on the tape, which must be empty, and answers its length. */
  int tape(String text) {
    byte[] bytes = bytes(text);
    for (int i = 0; i < bytes.length; i += 20) {
      int[] five = new int[5];
      for (int k = 0; k < 20; k++) {
        int one = i + k < bytes.length ? bytes[i + k] & 255 : 0;
        five[k / 4] |= one << 24 - 8 * (k % 4);
      }
      drive.feed(five[0], five[1], five[2], five[3], five[4]);
    }
    return bytes.length;
  }

  int open(int channel, String text) {
    return drive.open(channel, tape(text));
  }

  int write(int channel, String text) {
    return drive.write(channel, tape(text));
  }

  int command(String text) {
    return open(15, text);
  }

  /** What one read() brings. */
  String read(int channel, int n) {
    int count = drive.read(channel, n);
    StringBuilder text = new StringBuilder();
    for (int i = 0; i < count; i++) {
      text.append((char) drive.out(i));
    }
    return text.toString();
  }

  String list() {
    return list("$");
  }

  String list(String pattern) {
    open(14, pattern);
    String text = read(14, 300);
    drive.close(14);
    return text;
  }

  /** The lines of a list behind its first one. */
  String entries() {
    String list = list();
    return list.substring(list.indexOf('\r') + 1);
  }

  String status() {
    return drive.look(0) + " " + drive.look(1) + " " + drive.look(2);
  }

  /** A command, and then the STATUS's three numbers. */
  String after(String text) {
    command(text);
    return status();
  }

  String afterOpen(int channel, String text) {
    open(channel, text);
    return status();
  }

  String afterWrite(int channel, String text) {
    write(channel, text);
    return status();
  }

  String afterRead(int channel, int n) {
    drive.read(channel, n);
    return status();
  }

  String afterClose(int channel) {
    drive.close(channel);
    return status();
  }

  /** A closed file of these bytes. */
  void file(String name, String bytes) {
    due("open " + name, 0, open(2, name + ",S,W"));
    for (int i = 0; i < bytes.length(); i += 400) {
      due("write " + name, 0, write(2, bytes.substring(i, Math.min(bytes.length(), i + 400))));
    }
    due("close " + name, 0, drive.close(2));
  }

  // ---- what lies on a formatted disk, by its bits alone: that changes nothing in the drive ----

  /** Some bytes of a block. */
  String block(int track, int sector, int from, int count) {
    int[] bytes = Bits.decoded(Bits.at(drive, track, Bits.dataAt(sector) + 10 * (1 + from), 10 * count));
    return bytes == null ? "no bytes" : text(bytes);
  }

  String block(int track, int sector) {
    return block(track, sector, 0, 64);
  }

  /** Changes bytes of a block, and the exclusive or behind them. */
  void poke(int track, int sector, int at, int... values) {
    int change = 0;
    for (int i = 0; i < values.length; i++) {
      int old = block(track, sector, at + i, 1).charAt(0);
      change ^= old ^ values[i];
      Bits.make(drive, track, Bits.dataAt(sector) + 10 * (1 + at + i), Bits.coded(values[i]));
    }
    int sum = block(track, sector, 64, 1).charAt(0);
    Bits.make(drive, track, Bits.dataAt(sector) + 10 * 65, Bits.coded(sum ^ change));
  }

  /** Writes a block by a buffer of channel 13. */
  void setBlock(int track, int sector, String bytes) {
    open(13, "#");
    write(13, bytes);
    command("U2:13," + track + "," + sector);
    drive.close(13);
  }

  /** Spoils a block's header, so that READ and WRITE have the fault 20; or mends it again. */
  void spoil(int track, int sector) {
    drive.turn(track, Bits.headerAt(sector), 1 << 31);
  }

  /** Spoils the exclusive or of a block, so that READ has the fault 23. */
  void spoilSum(int track, int sector) {
    int sum = block(track, sector, 64, 1).charAt(0);
    Bits.make(drive, track, Bits.dataAt(sector) + 10 * 65, Bits.coded(sum ^ 1));
  }

  /** Puts a block's DATA right behind its HEADER: it can be READ there, but WRITE has the fault 25. */
  void spoilWriting(int track, int sector) {
    String bits = Bits.at(drive, track, Bits.dataAt(sector), 680);
    Bits.make(drive, track, Bits.headerAt(sector) + 80, Bits.ones(10) + bits);
  }

  /** Makes all blocks of the map taken but those that are told as track, sector, track, sector. */
  void leaveFree(int... blocks) {
    int[] map = new int[28];
    map[0] = 7;
    map[1] = 1;
    map[2] = 68;
    for (int i = 0; i < blocks.length; i += 2) {
      map[2 + 2 * blocks[i]]++;
      map[3 + 2 * blocks[i]] |= 1 << blocks[i + 1];
    }
    setBlock(7, 0, text(map) + padded("DISK") + "AB");
  }
}
