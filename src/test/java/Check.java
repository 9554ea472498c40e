import java.nio.charset.StandardCharsets;

/** What the tests share: a drive, sending texts to it, and counting answers that are not as due. */
final class Check {
  private static int wrong = 0;
  private static int made = 0;

  RingDrive drive = new RingDrive();

  static void due(String what, long want, long got) {
    made++;
    if (want != got) {
      wrong++;
      System.out.println(what + " answered " + got + ", due is " + want);
    }
  }

  static void due(String what, String want, String got) {
    made++;
    if (!want.equals(got)) {
      wrong++;
      System.out.println(what + " answered " + shown(got) + ", due is " + shown(want));
    }
  }

  /** Ends a test: exit code 1 if an answer was wrong. */
  static void end() {
    System.out.println(made + " answers, " + wrong + " not as due");
    if (wrong != 0 || made == 0) {
      System.exit(1);
    }
  }

  static String shown(String text) {
    return "<" + text.replace("\r", "\\r") + ">";
  }

  static byte[] bytes(String text) {
    return text.getBytes(StandardCharsets.ISO_8859_1);
  }

  static String text(int... bytes) {
    StringBuilder text = new StringBuilder();
    for (int one : bytes) {
      text.append((char) (one & 255));
    }
    return text.toString();
  }

  /** Puts a text on the tape, which must be empty, and answers its length. */
  int tape(String text) {
    byte[] bytes = bytes(text);
    for (int i = 0; i < bytes.length; i += 20) {
      int[] five = new int[5];
      for (int k = 0; k < 20; k++) {
        int one = i + k < bytes.length ? bytes[i + k] & 255 : 0;
        five[k / 4] |= one << 24 - 8 * (k % 4);
      }
      drive.feed(five[0], five[1], five[2], five[3], five[4]);
    }
    return bytes.length;
  }

  int open(int channel, String text) {
    return drive.open(channel, tape(text));
  }

  int write(int channel, String text) {
    return drive.write(channel, tape(text));
  }

  int command(String text) {
    return open(15, text);
  }

  /** What one read() brings. */
  String read(int channel, int n) {
    int count = drive.read(channel, n);
    StringBuilder text = new StringBuilder();
    for (int i = 0; i < count; i++) {
      text.append((char) drive.out(i));
    }
    return text.toString();
  }

  String list() {
    return list("$");
  }

  String list(String pattern) {
    open(14, pattern);
    String text = read(14, 300);
    drive.close(14);
    return text;
  }

  String status() {
    return drive.look(0) + " " + drive.look(1) + " " + drive.look(2);
  }

  /** A command, and then the STATUS's three numbers. */
  String after(String text) {
    command(text);
    return status();
  }

  String afterOpen(int channel, String text) {
    open(channel, text);
    return status();
  }

  /** A block's 64 bytes, by a buffer of channel 13. */
  String block(int track, int sector) {
    open(13, "#");
    command("U1:13," + track + "," + sector);
    String bytes = read(13, 64);
    drive.close(13);
    return bytes;
  }

  void setBlock(int track, int sector, String bytes) {
    open(13, "#");
    write(13, bytes);
    command("U2:13," + track + "," + sector);
    drive.close(13);
  }

  /** Changes one byte of a block. */
  void poke(int track, int sector, int at, int value) {
    String bytes = block(track, sector);
    setBlock(track, sector, bytes.substring(0, at) + (char) value + bytes.substring(at + 1));
  }

  static Check formatted() {
    Check check = new Check();
    check.command("N:DISK,AB");
    return check;
  }

  /** A closed file of these bytes. */
  void file(String name, String bytes) {
    due("open " + name, 0, open(2, name + ",S,W"));
    for (int i = 0; i < bytes.length(); i += 400) {
      due("write " + name, 0, write(2, bytes.substring(i, Math.min(bytes.length(), i + 400))));
    }
    due("close " + name, 0, drive.close(2));
  }

  static String many(int count) {
    StringBuilder text = new StringBuilder();
    for (int i = 0; i < count; i++) {
      text.append((char) (i * 7 + 3 & 255));
    }
    return text.toString();
  }
}
