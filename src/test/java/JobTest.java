import java.util.ArrayList;
import java.util.Arrays;
import java.util.List;
import java.util.Random;

/**
 * Promises 9, 10, 11 and PART 1 of the terms: jobs on rings whose bits were turned, against a slow model
 * that goes along bit by bit and keeps every byte that came.
 */
public final class JobTest {
  private static final String[] GROUPS = (
      "01010 01011 10010 10011 01110 01111 10110 10111 01001 11001 11010 11011 01101 11101 11110 10101").split(" ");
  private static final Random RANDOM = new Random(20261116);

  /** A byte that came: its bits, whether it is FIRST, where its highest bit lies and where the bit behind it. */
  private record Came(int value, boolean first, int start, int behind) {}

  public static void main(String[] args) {
    formatLaysOut();
    turnTurns();
    emptyAndFullRings();
    marksOverTheIndex();
    marksOfTen();
    for (int run = 0; run < 60; run++) {
      damaged(run);
    }
    for (int run = 0; run < 60; run++) {
      damagedId(run);
    }
    idBeyondThirtyTwo();
    protectedDisk();
    Check.end();
  }

  // ---- the model ----

  private static int lengthOf(int track) {
    return new int[] {1000, 880, 760, 640}[(track - 1) / 3];
  }

  private static int sectorsOf(int track) {
    return new int[] {8, 7, 6, 5}[(track - 1) / 3];
  }

  private static int[] ring(RingDrive drive, int track) {
    int size = 8 * lengthOf(track);
    int[] ring = new int[size];
    for (int at = 0; at < size; at += 32) {
      int word = drive.bits(track, at);
      for (int i = 0; i < 32; i++) {
        ring[(at + i) % size] = word >>> 31 - i & 1;
      }
    }
    return ring;
  }

  private static String coded(int... bytes) {
    StringBuilder text = new StringBuilder();
    for (int one : bytes) {
      text.append(GROUPS[one >> 4 & 15]).append(GROUPS[one & 15]);
    }
    return text.toString();
  }

  private static String header(int track, int sector, int i, int j) {
    return coded(8, sector ^ track ^ i ^ j, sector, track, j, i, 15, 15);
  }

  private static String data(int[] block) {
    int[] all = new int[68];
    all[0] = 7;
    for (int k = 0; k < 64; k++) {
      all[k + 1] = block[k];
      all[65] ^= block[k];
    }
    return coded(all);
  }

  /** All bytes that come in some rounds from bit 0 on. */
  private static List<Came> goAlong(int[] ring, int rounds) {
    List<Came> all = new ArrayList<>();
    int ones = 0;
    while (ones < ring.length && ring[ring.length - 1 - ones] == 1) {
      ones++;
    }
    boolean inBytes = false;
    int value = 0;
    int many = 0;
    boolean first = false;
    int start = 0;
    for (int at = 0; at < rounds * ring.length; at++) {
      int bit = ring[at % ring.length];
      if (bit == 1) {
        ones++;
        if (ones >= 10) {
          inBytes = false;
          continue;
        }
      } else {
        if (ones >= 10) {
          inBytes = true;
          many = 0;
          first = true;
        }
        ones = 0;
      }
      if (inBytes) {
        if (many == 0) {
          start = at;
          value = 0;
        }
        value = 2 * value + bit;
        many++;
        if (many == 8) {
          all.add(new Came(value, first, start, at + 1));
          many = 0;
          first = false;
        }
      }
    }
    return all;
  }

  private static String bitsOf(List<Came> all, int from, int count) {
    StringBuilder text = new StringBuilder();
    for (int i = from; i < from + count; i++) {
      text.append(Integer.toBinaryString(256 + all.get(i).value()).substring(1));
    }
    return text.toString();
  }

  /** The header's place among the bytes, or minus the fault. */
  private static int seek(int[] ring, List<Came> all, String header) {
    boolean any = false;
    for (int i = 0; i < all.size() && all.get(i).start() < ring.length; i++) {
      if (!all.get(i).first()) {
        continue;
      }
      any = true;
      boolean same = bitsOf(all, i, 10).equals(header);
      for (int k = 1; k < 10; k++) {
        same &= !all.get(i + k).first();
      }
      if (same) {
        return i;
      }
    }
    return any ? -20 : -21;
  }

  private static String dataBehind(List<Came> all, int header) {
    int i = header + 10;
    while (!all.get(i).first()) {
      i++;
    }
    return bitsOf(all, i, 85);
  }

  private static int[] decoded(String bits) {
    int[] plain = new int[bits.length() / 10];
    for (int i = 0; i < bits.length() / 5; i++) {
      int four = Arrays.asList(GROUPS).indexOf(bits.substring(5 * i, 5 * i + 5));
      if (four < 0) {
        return null;
      }
      plain[i / 2] = 16 * plain[i / 2] + four;
    }
    return plain;
  }

  private static int readFault(String bits) {
    if (!bits.startsWith(GROUPS[0] + GROUPS[7])) {
      return 22;
    }
    int[] plain = decoded(bits);
    if (plain == null) {
      return 24;
    }
    int sum = 0;
    for (int i = 1; i <= 64; i++) {
      sum ^= plain[i];
    }
    return sum == plain[65] ? 0 : 23;
  }

  // ---- the tests ----

  private static void formatLaysOut() {
    Check check = Check.formatted();
    for (int track = 1; track <= 12; track++) {
      StringBuilder want = new StringBuilder();
      for (int sector = 0; sector < sectorsOf(track); sector++) {
        want.append("1".repeat(40)).append(header(track, sector, 'A', 'B')).append("01010101".repeat(9));
        want.append("1".repeat(40));
        if (track == 7 && sector < 2) {
          int[] block = new int[64];
          for (int i = 0; i < 64; i++) {
            block[i] = sector == 0 ? check.block(7, 0).charAt(i) : i == 1 ? 255 : 0;
          }
          want.append(data(block));
        } else {
          want.append(data(new int[64]));
        }
        want.append("01010101".repeat(8));
      }
      while (want.length() < 8 * lengthOf(track)) {
        want.append("01010101");
      }
      StringBuilder got = new StringBuilder();
      for (int bit : ring(check.drive, track)) {
        got.append(bit);
      }
      Check.due("format of track " + track, want.toString(), got.toString());
    }
  }

  private static void turnTurns() {
    Check check = new Check();
    RingDrive drive = check.drive;
    Check.due("turn(1, 7990, -1)", 1, drive.turn(1, 7990, -1) ? 1 : 0);
    Check.due("bits(1, 7990)", -1, drive.bits(1, 7990));
    Check.due("bits(1, 7989)", 0x7FFFFFFF, drive.bits(1, 7989));
    Check.due("bits(1, 0)", 0xFFFFFC00, drive.bits(1, 0));
    Check.due("turn(1, 7999, 5)", 1, drive.turn(1, 7999, 5) ? 1 : 0);
    Check.due("bits(1, 0)", 0xFFFFFC0A, drive.bits(1, 0));
    Check.due("bits(1, 8000)", 0, drive.bits(1, 8000));
    Check.due("bits(1, -1)", 0, drive.bits(1, -1));
    Check.due("bits(0, 0)", 0, drive.bits(0, 0));
    Check.due("bits(13, 0)", 0, drive.bits(13, 0));
    for (int track = 1; track <= 12; track++) {
      int size = 8 * lengthOf(track);
      Check.due("turn beyond", 0, drive.turn(track, size, 1) ? 1 : 0);
      Check.due("turn ahead", 0, drive.turn(track, -1, 1) ? 1 : 0);
      Check.due("turn of the last bit", 1, drive.turn(track, size - 1, 1 << 31) ? 1 : 0);
      Check.due("the last bit", 1, drive.bits(track, size - 1) >>> 31 ^ (track == 1 ? 1 : 0));
    }
    Check.due("turn(0, 0, 1)", 0, drive.turn(0, 0, 1) ? 1 : 0);
    Check.due("turn(13, 0, 1)", 0, drive.turn(13, 0, 1) ? 1 : 0);
    Check.due("turn(-2147483648, 0, 1)", 0, drive.turn(Integer.MIN_VALUE, 0, 1) ? 1 : 0);
    Check.due("turn(1, 2147483647, 1)", 0, drive.turn(1, Integer.MAX_VALUE, 1) ? 1 : 0);
  }

  /** Makes the 32 bits from a place on as told. */
  private static void make(RingDrive drive, int track, int at, int word) {
    drive.turn(track, at, drive.bits(track, at) ^ word);
  }

  private static void makeAll(RingDrive drive, int track, int word) {
    for (int at = 0; at < 8 * lengthOf(track); at += 32) {
      make(drive, track, at, word);
    }
  }

  private static void emptyAndFullRings() {
    Check check = Check.formatted();
    check.open(2, "#");
    makeAll(check.drive, 3, 0);
    Check.due("a ring of 0s", "21 3 5", check.after("U1:2,3,5"));
    Check.due("a ring of 0s", "21 3 5", check.after("U2:2,3,5"));
    makeAll(check.drive, 3, -1);
    Check.due("a ring of 1s", "21 3 0", check.after("U1:2,3,0"));
    make(check.drive, 3, 4000, 0xFFFFFFFE);
    Check.due("a ring with one 0", "20 3 7", check.after("U1:2,3,7"));
    makeAll(check.drive, 7, -1);
    Check.due("ID of a ring of 1s", "74 7 0", check.after("I"));
    Check.due("no ID", RingDrive.NONE, check.drive.look(5));
    Check.due("no ID", RingDrive.NONE, check.drive.look(6));
    make(check.drive, 7, 0, 0x7FFFFFFF);
    Check.due("ID of a ring with one 0", "74 7 0", check.after("I"));
    Check.due("ID wanted by a READ", "74 7 0", check.after("U1:2,3,7"));
  }

  private static void marksOverTheIndex() {
    for (int ahead = 0; ahead <= 12; ahead++) {
      Check check = Check.formatted();
      RingDrive drive = check.drive;
      check.open(2, "#");
      // Of the first sector's mark nothing stays; the ring's end and begin get ten 1s or fewer.
      make(drive, 12, 0, 0);
      make(drive, 12, 8, 0);
      for (int i = 0; i < ahead; i++) {
        drive.turn(12, 5119 - i, 1 << 31);
        if ((drive.bits(12, 5119 - i) >>> 31) == 0) {
          drive.turn(12, 5119 - i, 1 << 31);
        }
      }
      check.after("U1:2,12,0");
      compareRead(check, drive, 12, 0, "1s ahead of the index: " + ahead);
    }
  }

  /** Ten 1s at any place are a MARK, nine are none. */
  private static void marksOfTen() {
    Check check = Check.formatted();
    RingDrive drive = check.drive;
    check.open(2, "#");
    for (int ones = 9; ones <= 11; ones++) {
      for (int place = 5100; place <= 5140; place++) {
        makeAll(drive, 12, 0);
        String run = "1".repeat(ones) + header(12, 3, 'A', 'B');
        for (int i = 0; i < run.length(); i++) {
          drive.turn(12, (place + i) % 5120, run.charAt(i) == '1' ? 1 << 31 : 0);
        }
        Check.due(ones + " 1s at " + place, ones < 10 ? "21 12 3" : "22 12 3", check.after("U1:2,12,3"));
        Check.due("another sector", ones < 10 ? "21 12 2" : "20 12 2", check.after("U1:2,12,2"));
      }
    }
  }

  private static void compareRead(Check check, RingDrive drive, int track, int sector, String what) {
    int[] ring = ring(drive, track);
    List<Came> all = goAlong(ring, 14);
    int at = seek(ring, all, header(track, sector, drive.look(5), drive.look(6)));
    String bits = at < 0 ? "" : dataBehind(all, at);
    int fault = at < 0 ? -at : readFault(bits);
    check.command("B-P:2,0");
    check.write(2, "!".repeat(64));
    check.command("U1:2," + track + "," + sector);
    Check.due(what + ": READ", fault == 0 ? "0 0 0" : fault + " " + track + " " + sector, check.status());
    check.command("B-P:2,0");
    String got = check.read(2, 64);
    if (fault == 0) {
      int[] plain = decoded(bits);
      Check.due(what + ": bytes", Check.text(Arrays.copyOfRange(plain, 1, 65)), got);
    } else {
      Check.due(what + ": bytes stay", "!".repeat(64), got);
    }
  }

  private static void compareWrite(Check check, RingDrive drive, int track, int sector, String what) {
    int[] ring = ring(drive, track);
    int[] block = new int[64];
    for (int i = 0; i < 64; i++) {
      block[i] = RANDOM.nextInt(256);
    }
    String header = header(track, sector, drive.look(5), drive.look(6));
    List<Came> all = goAlong(ring, 14);
    int at = seek(ring, all, header);
    int fault = -at;
    if (at >= 0) {
      int place = all.get(at + 18).behind();
      String run = "1".repeat(40) + data(block);
      for (int i = 0; i < run.length(); i++) {
        ring[(place + i) % ring.length] = run.charAt(i) - '0';
      }
      all = goAlong(ring, 14);
      at = seek(ring, all, header);
      fault = at >= 0 && dataBehind(all, at).equals(data(block)) ? 0 : 25;
    }
    check.command("B-P:2,0");
    check.write(2, Check.text(block));
    check.command("U2:2," + track + "," + sector);
    Check.due(what + ": WRITE", fault == 0 ? "0 0 0" : fault + " " + track + " " + sector, check.status());
    Check.due(what + ": ring", Arrays.toString(ring), Arrays.toString(ring(drive, track)));
  }

  private static void damage(RingDrive drive, int track) {
    int size = 8 * lengthOf(track);
    for (int i = RANDOM.nextInt(12); i >= 0; i--) {
      int at = RANDOM.nextInt(size);
      switch (RANDOM.nextInt(5)) {
        case 0:
          drive.turn(track, at, 1 << RANDOM.nextInt(32));
          break;
        case 1:
          make(drive, track, at, -1);
          break;
        case 2:
          make(drive, track, at, drive.bits(track, at) | 0x00FFC000);
          break;
        case 3:
          make(drive, track, at, drive.bits(track, at) | RANDOM.nextInt());
          break;
        default:
          make(drive, track, at, 0x7FF00FFF);
          break;
      }
    }
  }

  private static void damaged(int run) {
    Check check = Check.formatted();
    RingDrive drive = check.drive;
    check.open(2, "#");
    int track = new int[] {1, 2, 5, 9, 12, 10}[run % 6];
    for (int i = 0; i < 3; i++) {
      damage(drive, track);
      for (int sector = 0; sector < sectorsOf(track); sector++) {
        compareRead(check, drive, track, sector, "run " + run);
      }
      compareWrite(check, drive, track, RANDOM.nextInt(sectorsOf(track)), "run " + run);
      compareWrite(check, drive, track, RANDOM.nextInt(sectorsOf(track)), "run " + run);
    }
  }

  private static String naiveId(int[] ring) {
    List<Came> all = goAlong(ring, 14);
    int firsts = 0;
    for (int i = 0; i < all.size() && all.get(i).start() < ring.length && firsts < 32; i++) {
      if (all.get(i).first()) {
        firsts++;
        int[] plain = decoded(bitsOf(all, i, 10));
        if (plain != null && plain[0] == 8 && plain[1] == (plain[2] ^ plain[3] ^ plain[4] ^ plain[5])) {
          return plain[5] + " " + plain[4];
        }
      }
    }
    return "-1 -1";
  }

  private static void damagedId(int run) {
    Check check = Check.formatted();
    RingDrive drive = check.drive;
    for (int sector = 0; sector < 6; sector++) {
      if (RANDOM.nextInt(4) > 0) {
        drive.turn(7, 122 * 8 * sector + 40 + RANDOM.nextInt(80), 1 << 31);
      }
    }
    damage(drive, 7);
    String want = naiveId(ring(drive, 7));
    check.command("I");
    Check.due("run " + run + ": ID", want, drive.look(5) + " " + drive.look(6));
    Check.due("run " + run + ": 74", want.equals("-1 -1") ? 1 : 0, drive.look(0) == 74 ? 1 : 0);
  }

  /** A good HEADER as the how manieth FIRST byte of the ring is still found. */
  private static void idBeyondThirtyTwo() {
    for (int firsts = 30; firsts <= 34; firsts++) {
      Check check = Check.formatted();
      RingDrive drive = check.drive;
      makeAll(drive, 7, 0);
      for (int i = 0; i < firsts - 1; i++) {
        make(drive, 7, 32 * i, 0x001FFE00);
      }
      String header = "1".repeat(40) + header(9, 200, 'X', 'Y') + "0".repeat(40);
      for (int i = 0; i + 32 <= header.length(); i += 32) {
        make(drive, 7, 32 * firsts + i, Integer.parseUnsignedInt(header.substring(i, i + 32), 2));
      }
      check.command("I");
      Check.due("FIRST byte " + firsts, firsts <= 32 ? 'X' : RingDrive.NONE, drive.look(5));
      Check.due("its fault", firsts <= 32 ? 20 : 74, drive.look(0));
    }
  }

  private static void protectedDisk() {
    Check check = Check.formatted();
    check.open(2, "#");
    check.drive.protect(true);
    Check.due("U2", "26 9 2", check.after("U2:2,9,2"));
    Check.due("U1", "0 0 0", check.after("U1:2,9,2"));
    Check.due("N", "26 12 0", check.after("N:OTHER,CD"));
    Check.due("the ID stays", 'A', check.drive.look(5));
    Check.due("but channels are closed", 0, check.drive.look(7));
    Check.due("N without ID", "26 7 0", check.after("N:OTHER"));
    check.command("UI");
    check.open(2, "#");
    makeAll(check.drive, 7, 0);
    Check.due("26 is ahead of 74", "26 9 2", check.after("U2:2,9,2"));
    Check.due("but N wants the ID first", "74 7 0", check.after("N:OTHER"));
    check.drive.power();
    check.open(2, "#");
    Check.due("power leaves it protected", "26 1 0", check.after("U2:2,1,0"));
    check.drive.protect(false);
    Check.due("not protected", "74 7 0", check.after("U2:2,1,0"));
  }
}
