import java.util.ArrayList;
import java.util.List;
import java.util.Random;

/** Jobs on rings whose bits were turned at random, against a slow model that goes along bit by bit and keeps every byte that came. */
public final class JobTest {
  private static final Random RANDOM = new Random(20261116);

  /** A byte that came: its bits, whether it is FIRST, where its highest bit lies and where the bit behind it. */
  private record Came(int value, boolean first, int start, int behind) {}

  public static void main(String[] args) {
    int runs = args.length > 0 ? Integer.parseInt(args[0]) : 150;
    for (int run = 0; run < runs; run++) {
      damagedSectors(run);
      damagedId(run);
    }
    Check.end();
  }

  // ---- the model ----

  private static int[] ring(String bits) {
    int[] ring = new int[bits.length()];
    for (int i = 0; i < ring.length; i++) {
      ring[i] = bits.charAt(i) - '0';
    }
    return ring;
  }

  private static String shown(int[] ring) {
    StringBuilder text = new StringBuilder();
    for (int bit : ring) {
      text.append(bit);
    }
    return text.toString();
  }

  /** All bytes that come in some rounds from bit 0 on. */
  private static List<Came> goAlong(int[] ring, int rounds) {
    List<Came> all = new ArrayList<>();
    int ones = 0;
    while (ones < ring.length && ring[ring.length - 1 - ones] == 1) {
      ones++;
    }
    boolean inBytes = false;
    int value = 0;
    int many = 0;
    boolean first = false;
    int start = 0;
    for (int at = 0; at < rounds * ring.length; at++) {
      int bit = ring[at % ring.length];
      if (bit == 1) {
        ones++;
        if (ones >= 10) {
          inBytes = false;
          continue;
        }
      } else {
        if (ones >= 10) {
          inBytes = true;
          many = 0;
          first = true;
        }
        ones = 0;
      }
      if (inBytes) {
        if (many == 0) {
          start = at;
          value = 0;
        }
        value = 2 * value + bit;
        many++;
        if (many == 8) {
          all.add(new Came(value, first, start, at + 1));
          many = 0;
          first = false;
        }
      }
    }
    return all;
  }

  private static String bitsOf(List<Came> all, int from, int count) {
    StringBuilder text = new StringBuilder();
    for (int i = from; i < from + count; i++) {
      text.append(Integer.toBinaryString(256 + all.get(i).value()).substring(1));
    }
    return text.toString();
  }

  /** The header's place among the bytes, or minus the fault. */
  private static int seek(int[] ring, List<Came> all, String header) {
    boolean any = false;
    for (int i = 0; i < all.size() && all.get(i).start() < ring.length; i++) {
      if (!all.get(i).first()) {
        continue;
      }
      any = true;
      boolean same = bitsOf(all, i, 10).equals(header);
      for (int k = 1; k < 10; k++) {
        same &= !all.get(i + k).first();
      }
      if (same) {
        return i;
      }
    }
    return any ? -20 : -21;
  }

  private static String dataBehind(List<Came> all, int header) {
    int i = header + 10;
    while (!all.get(i).first()) {
      i++;
    }
    return bitsOf(all, i, 85);
  }

  private static int readFault(String bits) {
    if (!bits.startsWith(Bits.GROUPS[0] + Bits.GROUPS[7])) {
      return 22;
    }
    int[] plain = Bits.decoded(bits);
    if (plain == null) {
      return 24;
    }
    int sum = 0;
    for (int i = 1; i <= 64; i++) {
      sum ^= plain[i];
    }
    return sum == plain[65] ? 0 : 23;
  }

  // ---- damage, to the drive's ring and to the model's ----

  private static void change(Drive drive, int track, int[] ring, int at, int mask) {
    drive.turn(track, at, mask);
    for (int i = 0; i < 32; i++) {
      ring[(at + i) % ring.length] ^= mask >>> 31 - i & 1;
    }
  }

  private static int wordAt(int[] ring, int at) {
    int word = 0;
    for (int i = 0; i < 32; i++) {
      word = word << 1 | ring[(at + i) % ring.length];
    }
    return word;
  }

  private static void damage(Drive drive, int track, int[] ring) {
    for (int i = RANDOM.nextInt(14); i >= 0; i--) {
      int at = RANDOM.nextInt(ring.length);
      int word = wordAt(ring, at);
      switch (RANDOM.nextInt(5)) {
        case 0: change(drive, track, ring, at, 1 << RANDOM.nextInt(32)); break;
        case 1: change(drive, track, ring, at, ~word); break;
        case 2: change(drive, track, ring, at, ~word & 0x00FFC000); break;
        case 3: change(drive, track, ring, at, ~word & RANDOM.nextInt()); break;
        default: change(drive, track, ring, at, word ^ 0x7FF00FFF); break;
      }
    }
  }

  // ---- the tests ----

  private static void damagedSectors(int run) {
    Check check = Check.formatted();
    check.open(2, "#");
    int track = new int[] {1, 2, 5, 9, 12, 10}[run % 6];
    int[] ring = ring(Bits.formatted(track, 'A', 'B'));
    damage(check.drive, track, ring);
    compareRead(check, ring, track, RANDOM.nextInt(Bits.sectorsOf(track)));
    compareWrite(check, ring, track, RANDOM.nextInt(Bits.sectorsOf(track)));
    if (RANDOM.nextBoolean()) {
      damage(check.drive, track, ring);
    }
    compareWrite(check, ring, track, RANDOM.nextInt(Bits.sectorsOf(track)));
    compareRead(check, ring, track, RANDOM.nextInt(Bits.sectorsOf(track)));
    Check.due("run " + run + ": ring", shown(ring), Bits.at(check.drive, track, 0, ring.length));
  }

  private static void compareRead(Check check, int[] ring, int track, int sector) {
    List<Came> all = goAlong(ring, 14);
    int at = seek(ring, all, Bits.header(track, sector, 'A', 'B'));
    String bits = at < 0 ? "" : dataBehind(all, at);
    int fault = at < 0 ? -at : readFault(bits);
    Check.due("READ", fault == 0 ? "0 0 0" : fault + " " + track + " " + sector, check.after("U1:2," + track + "," + sector));
    if (fault == 0) {
      int[] plain = Bits.decoded(bits);
      check.drive.read(2, 64);
      for (int i = 0; i < 64; i += 1 + RANDOM.nextInt(6)) {
        Check.due("byte " + i, plain[1 + i], check.drive.out(i));
      }
    }
  }

  private static void compareWrite(Check check, int[] ring, int track, int sector) {
    int[] block = new int[64];
    for (int i = 0; i < 64; i++) {
      block[i] = RANDOM.nextInt(256);
    }
    String header = Bits.header(track, sector, 'A', 'B');
    List<Came> all = goAlong(ring, 14);
    int at = seek(ring, all, header);
    int fault = -at;
    if (at >= 0) {
      int place = all.get(at + 18).behind();
      String run = Bits.ones(40) + Bits.data(block);
      for (int i = 0; i < run.length(); i++) {
        ring[(place + i) % ring.length] = run.charAt(i) - '0';
      }
      all = goAlong(ring, 14);
      at = seek(ring, all, header);
      fault = at >= 0 && dataBehind(all, at).equals(Bits.data(block)) ? 0 : 25;
    }
    check.command("B-P:2,0");
    check.write(2, Check.text(block));
    Check.due("WRITE", fault == 0 ? "0 0 0" : fault + " " + track + " " + sector, check.after("U2:2," + track + "," + sector));
  }

  private static String naiveId(int[] ring) {
    List<Came> all = goAlong(ring, 14);
    int firsts = 0;
    for (int i = 0; i < all.size() && all.get(i).start() < ring.length && firsts < 32; i++) {
      if (all.get(i).first()) {
        firsts++;
        int[] plain = Bits.decoded(bitsOf(all, i, 10));
        if (plain != null && plain[0] == 8 && plain[1] == (plain[2] ^ plain[3] ^ plain[4] ^ plain[5])) {
          return plain[5] + " " + plain[4];
        }
      }
    }
    return "-1 -1";
  }

  /** A track 7 of headers, each with another ID, most of them spoiled. */
  private static void damagedId(int run) {
    Check check = new Check();
    StringBuilder bits = new StringBuilder();
    for (int i = 0; i < 40; i++) {
      bits.append(Bits.ones(10 + RANDOM.nextInt(3))).append(Bits.header(7, i, RANDOM.nextInt(256), RANDOM.nextInt(256)));
      bits.append(Bits.zeros(RANDOM.nextInt(40)));
    }
    int[] ring = ring(bits.append(Bits.zeros(6080)).substring(0, 6080));
    for (int at = 0; at < 6000; at++) {
      if (ring[at] == 0 && RANDOM.nextInt(30) == 0) {
        ring[at] = 1;
      }
    }
    Bits.turn(check.drive, 7, 0, shown(ring));
    String want = naiveId(ring);
    check.command("I");
    Check.due("run " + run + ": ID", want, check.drive.look(5) + " " + check.drive.look(6));
    Check.due("run " + run + ": 74", want.equals("-1 -1"), check.drive.look(0) == 74);
  }
}
