import java.util.Random;

/**
 * Random calls on the class and on the model of it, answer by answer: files, lists, buffers and commands on disks
 * whose maps, directories, chains and bits were tampered with, full ones and protected ones.
 */
public final class ModelTest {
  private static final int CALLS_LEFT_AT_END = 110;
  private static final String[] NAMES = {"A", "B", "AB", "ABC", "TENBYTES10", "A\u00A0B", "A\u00A0", "B*", "?", "A?", "*", "?B", "A*B"};

  private final Random random;
  private final String run;
  private final Drive drive = new Drive();
  private final Model model = new Model();
  private String last = "";

  private ModelTest(int seed) {
    random = new Random(seed);
    run = "run " + seed;
  }

  public static void main(String[] args) {
    int from = args.length > 1 ? Integer.parseInt(args[1]) : 0;
    int runs = args.length > 0 ? Integer.parseInt(args[0]) : 600;
    for (int seed = from; seed < from + runs; seed++) {
      new ModelTest(seed).play();
    }
    Check.end();
  }

  private void play() {
    if (random.nextInt(20) > 0) {
      command("N:DISK,AB");
    }
    switch (random.nextInt(6)) {
      case 0:
      case 1:
        fewFree();
        break;
      case 2:
        fillDirectory();
        break;
      case 3:
        longFile();
        break;
      default:
        break;
    }
    while (drive.left() > CALLS_LEFT_AT_END + 60) {
      step();
      due("STATUS's number", model.look(0), drive.look(0));
      if (model.look(0) != 0) {
        due("track", model.look(1), drive.look(1));
        due("sector", model.look(2), drive.look(2));
      }
    }
    for (int what = -1; what < 16; what++) {
      due("look(" + what + ")", model.look(what), drive.look(what));
    }
    while (drive.left() > 0) {
      int track = random.nextInt(3) == 0 ? 7 : 1 + random.nextInt(12);
      int at = random.nextInt(8 * Bits.lengthOf(track));
      due("bits(" + track + ", " + at + ")", model.bits(track, at), drive.bits(track, at));
    }
  }

  private void due(String what, int want, int got) {
    Check.due(run + ", behind " + last + ": " + what, want, got);
  }

  // ---- calls of both ----

  private int tape(String text) {
    byte[] bytes = Check.bytes(text);
    for (int i = 0; i < bytes.length; i += 20) {
      int[] five = new int[5];
      for (int k = 0; k < 20; k++) {
        int one = i + k < bytes.length ? bytes[i + k] & 255 : 0;
        five[k / 4] |= one << 24 - 8 * (k % 4);
      }
      due("feed", model.feed(five), drive.feed(five[0], five[1], five[2], five[3], five[4]));
    }
    return bytes.length;
  }

  private void open(int c, String text) {
    int n = tape(text);
    last = "open " + c + " " + Check.shown(text);
    due("answer", model.open(c, n), drive.open(c, n));
  }

  private void command(String text) {
    int n = tape(text);
    last = "command " + Check.shown(text);
    if (random.nextBoolean()) {
      due("answer", model.open(15, n), drive.open(15, n));
    } else {
      due("answer", model.write(15, n), drive.write(15, n));
    }
  }

  private void write(int c, String text) {
    int n = tape(text);
    last = "write " + c + " " + Check.shown(text);
    due("answer", model.write(c, n), drive.write(c, n));
  }

  private void close(int c) {
    last = "close " + c;
    due("answer", model.close(c), drive.close(c));
  }

  private void read(int c, int n) {
    last = "read " + c + " " + n;
    int count = model.read(c, n);
    due("answer", count, drive.read(c, n));
    due("END", model.look(3), drive.look(3));
    for (int i = random.nextInt(4); i < count; i += 1 + random.nextInt(1 + count / 6)) {
      due("out(" + i + ")", model.out(i), drive.out(i));
    }
    due("out(" + count + ")", -1, drive.out(count));
  }

  private void turn(int track, int at, int mask) {
    last = "turn";
    due("answer", model.turn(track, at, mask) ? 1 : 0, drive.turn(track, at, mask) ? 1 : 0);
  }

  /** Changes a byte of a block where FORMAT has put it, and the exclusive or behind the bytes. */
  private void poke(int track, int sector, int at, int value) {
    int[] plain = model.blockAsFormatted(track, sector);
    if (plain != null) {
      int change = plain[1 + at] ^ value;
      recode(track, Bits.dataAt(sector) + 10 * (1 + at), plain[1 + at], value);
      recode(track, Bits.dataAt(sector) + 650, plain[65], plain[65] ^ change);
    }
  }

  private void recode(int track, int place, int old, int value) {
    int mask = Integer.parseInt(Bits.coded(old), 2) ^ Integer.parseInt(Bits.coded(value), 2);
    if (mask != 0) {
      turn(track, place, mask << 22);
    }
  }

  // ---- what is done ----

  private int pick(int... choices) {
    return choices[random.nextInt(choices.length)];
  }

  private String name() {
    return NAMES[random.nextInt(random.nextInt(3) == 0 ? NAMES.length : 7)];
  }

  private int channel() {
    return random.nextInt(8) == 0 ? random.nextInt(15) : pick(0, 1, 2, 2, 3);
  }

  private String bytes(int count) {
    StringBuilder text = new StringBuilder();
    for (int i = 0; i < count; i++) {
      text.append((char) random.nextInt(256));
    }
    return text.toString();
  }

  private void step() {
    switch (random.nextInt(20)) {
      case 0:
      case 1:
        makeFile();
        break;
      case 2:
      case 3:
        open(channel(), fileText());
        break;
      case 4:
      case 5:
        write(channel(), bytes(pick(0, 1, 20, 61, 62, 63, 124, 125, 200, 400)));
        break;
      case 6:
        close(random.nextInt(10) == 0 ? 15 : channel());
        break;
      case 7:
      case 8:
        read(channel(), pick(1, 2, 20, 61, 62, 63, 100, 300));
        break;
      case 9:
        read(15, pick(1, 5, 40, 40));
        break;
      case 10:
        open(14, random.nextInt(3) == 0 ? "$:" + name() : "$");
        read(14, pick(30, 300, 300));
        break;
      case 11:
        read(14, pick(1, 30, 300));
        break;
      case 12:
      case 13:
      case 14:
        command(commandText());
        break;
      case 15:
        tamper();
        break;
      case 16:
        moveBlock();
        break;
      case 17:
        rare();
        break;
      default:
        command(pick(0, 1) == 0 ? "S:" + name() : "V");
        break;
    }
  }

  /** A directory of up to seven blocks whose entries hold whatever may stand there. */
  private void fillDirectory() {
    open(2, "#");
    int blocks = pick(1, 2, 5, 6, 6, 7);
    for (int i = 0; i < blocks; i++) {
      int[] row = new int[64];
      for (int k = 0; k < 4; k++) {
        row[16 * k + 2] = pick(129, 130, 131, 1, 2, 128, 132, i < blocks - 1 ? 129 : 0);
        row[16 * k + 3] = pick(6, 6, 8, 5, 1, 13);
        row[16 * k + 4] = random.nextInt(6);
        System.arraycopy(Check.padded(name()).chars().toArray(), 0, row, 16 * k + 5, 10);
        row[16 * k + 15] = random.nextInt(256);
      }
      row[0] = i < blocks - 1 ? trackOf(i + 1) : pick(0, 0, 0, 7, 14);
      row[1] = i < blocks - 1 ? sectorOf(i + 1) : pick(255, 1, 9);
      command("B-P:2,0");
      write(2, Check.text(row));
      command("U2:2," + trackOf(i) + "," + sectorOf(i));
    }
    close(2);
  }

  /** Where block i of the directory is put: track 7 has room for five. */
  private static int trackOf(int i) {
    return i < 5 ? 7 : 9;
  }

  private static int sectorOf(int i) {
    return i < 5 ? i + 1 : i - 5;
  }

  /** A file that is left open on a disk which fills up, and whose chain may be tampered with meanwhile. */
  private void longFile() {
    open(3, "LONG,W");
    for (int i = pick(1, 3, 6); i > 0; i--) {
      write(3, bytes(400));
    }
    if (random.nextInt(3) > 0) {
      poke(6, random.nextInt(7), random.nextInt(2), pick(0, 6, 8, 13, random.nextInt(7)));
    }
    fewFree();
    write(3, bytes(pick(100, 400)));
  }

  private void makeFile() {
    int c = channel();
    open(c, name() + ",W");
    write(c, bytes(pick(1, 62, 63, 124, 130, 250)));
    if (random.nextInt(4) > 0) {
      close(c);
    }
  }

  private String fileText() {
    String ahead = pick(0, 1, 2) == 0 ? "" : new String[] {"@", ":", "@:", "", "#", "$", "$:"}[random.nextInt(7)];
    String behind = new String[] {"", "", ",R", ",W", ",S,W", ",P,W", ",U,W", ",S", ",P,R", ",U", ",X", ",", ",W,S", ",R,R"}[random.nextInt(14)];
    String text = ahead + (random.nextInt(12) == 0 ? "" : name()) + behind;
    return random.nextInt(30) == 0 ? text + bytes(30) : text;
  }

  private String block() {
    return random.nextInt(14) + "," + random.nextInt(random.nextInt(3) == 0 ? 9 : 5);
  }

  private String commandText() {
    switch (random.nextInt(20)) {
      case 0: return "N:" + name();
      case 1: return random.nextInt(3) == 0 ? "N:" + name() + "," + bytes(2) : "I";
      case 2: return random.nextInt(3) == 0 ? "UI" : "I";
      case 3:
      case 4:
      case 5: return "R:" + name() + "=" + name();
      case 6:
      case 7: return "B-A:" + block();
      case 8:
      case 9: return "B-F:" + block();
      case 10: return "U1:" + channel() + "," + block();
      case 11: return "U2:" + channel() + "," + block();
      case 12: return "B-P:" + channel() + "," + random.nextInt(260);
      case 13: return "M-W" + bytes(2) + (char) random.nextInt(36) + bytes(random.nextInt(30));
      case 14: return "M-R" + bytes(2) + (char) random.nextInt(36);
      case 15: return "M-E" + bytes(random.nextInt(3));
      case 16: return bytes(random.nextInt(42));
      case 17: return strange();
      case 18: return "S:" + name();
      default: return "V";
    }
  }

  /** Texts that are nearly commands. */
  private String strange() {
    String[] all = {"N", "N:", "N:A,", "N:A,B", "N:A,BCD", "N:ELEVENBYTES", "N:A,,,", "S", "S:", "SA", "S:ELEVENBYTES", "R", "R:", "R:A", "R:=A",
      "R:A=", "R:A=ELEVENBYTES", "R:ELEVENBYTES=A", "R:A=B=C", "I:", "V0", "UI0", "U", "U3:2,1,1", "U1", "U1:", "U1:2,1", "U1:2,1,1,1",
      "U1 x:2  1;01", "U2:2,0001,1", "U1:256,1,1", "U1:2,300,1", "B", "B-", "B-X:1,1", "B-P", "B-P:2", "B-P 2,3", "B-A:1", "B-F:255,255",
      "B-A:0,0", "M", "M-", "M-X", "M-W", "M-R", "M-R\0\0!", "M-R\0\0\u0020", "M:", ":", "", " N:A"};
    return all[random.nextInt(all.length)];
  }

  /** Writes a block of bytes through a buffer, or reads one. */
  private void moveBlock() {
    int c = channel();
    open(c, "#");
    String block = pick(7, 7, 6, 6, 8) + "," + pick(0, 1, 1, 2, 3);
    if (random.nextBoolean()) {
      command("U1:" + c + "," + block);
      read(c, pick(10, 64, 70));
    } else {
      write(c, random.nextBoolean() ? bytes(64) : Check.text(pick(0, 0, 6, 7, 8, 13), random.nextInt(8)));
      command("U2:" + c + "," + block);
    }
    if (random.nextInt(3) > 0) {
      close(c);
    }
  }

  private void tamper() {
    switch (random.nextInt(6)) {
      case 0: // a next block of the directory or a file
        poke(pick(7, 6, 6), pick(1, 1, 0, 2, 3), random.nextInt(2), pick(0, 0, 1, 2, 3, 5, 6, 7, 13, 255));
        break;
      case 1: // an entry
        poke(7, 1, 16 * random.nextInt(4) + random.nextInt(16), pick(0, 1, 2, 3, 6, 7, 65, 66, 128, 129, 130, 131, 132, 160, 255));
        break;
      case 2: // the map
        poke(7, 0, 4 + random.nextInt(36), pick(0, 1, 2, 4, 8, 16, 255));
        break;
      case 3:
        fewFree();
        break;
      case 4: // a header, which 20 is told of
        turn(pick(6, 7, 8), Bits.headerAt(random.nextInt(6)), 1 << 31);
        break;
      default:
        turn(pick(6, 7, 8), random.nextInt(5120), 1 << random.nextInt(32));
        break;
    }
  }

  /** Leaves a few blocks of the map free, by its bytes. */
  private void fewFree() {
    int left = pick(6, 8, 5, 1, 7);
    for (int t = 1; t <= 12; t++) {
      if (t != left) {
        poke(7, 0, 2 + 2 * t, 0);
      }
    }
    if (random.nextBoolean()) {
      poke(7, 0, 3 + 2 * left, random.nextInt(256));
    }
  }

  private void rare() {
    switch (random.nextInt(7)) {
      case 0:
        last = "power";
        model.power();
        drive.power();
        break;
      case 1:
      case 2:
      case 3:
        boolean is = random.nextInt(3) == 0;
        last = "protect " + is;
        model.protect(is);
        drive.protect(is);
        break;
      case 4:
        int at = random.nextInt(2200) - 50;
        due("memory(" + at + ")", model.memory(at), drive.memory(at));
        break;
      case 5:
        read(pick(-1, 16, 2, 15), pick(0, -1, 301, 300));
        break;
      default:
        int c = pick(-1, 16, 15, 2);
        int n = pick(-1, 0, 1);
        last = "edges " + c + " " + n;
        due("open", model.open(c, n), drive.open(c, n));
        due("write", model.write(c, n), drive.write(c, n));
        due("close", model.close(c == 15 ? 16 : c), drive.close(c == 15 ? 16 : c));
        break;
    }
  }
}
