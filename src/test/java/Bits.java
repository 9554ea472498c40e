import java.util.Arrays;

/** The group code and what lies on a track, as texts of 0s and 1s; written from the document, not from the class. */
final class Bits {
  static final String[] GROUPS = (
      "01010 01011 10010 10011 01110 01111 10110 10111 01001 11001 11010 11011 01101 11101 11110 10101").split(" ");

  private Bits() {}

  static int lengthOf(int track) {
    return new int[] {1000, 880, 760, 640}[(track - 1) / 3];
  }

  static int sectorsOf(int track) {
    return new int[] {8, 7, 6, 5}[(track - 1) / 3];
  }

  static String ones(int count) {
    return "1".repeat(count);
  }

  static String zeros(int count) {
    return "0".repeat(count);
  }

  static String coded(int... bytes) {
    StringBuilder text = new StringBuilder();
    for (int one : bytes) {
      text.append(GROUPS[one >> 4 & 15]).append(GROUPS[one & 15]);
    }
    return text.toString();
  }

  static String header(int track, int sector, int i, int j) {
    return coded(8, sector ^ track ^ i ^ j, sector, track, j, i, 15, 15);
  }

  static String data(int... block) {
    int[] all = new int[68];
    all[0] = 7;
    for (int k = 0; k < 64 && k < block.length; k++) {
      all[k + 1] = block[k];
      all[65] ^= block[k];
    }
    return coded(all);
  }

  /** The bytes of these bits, or null if one of the groups is none. */
  static int[] decoded(String bits) {
    int[] plain = new int[bits.length() / 10];
    for (int i = 0; i < bits.length() / 5; i++) {
      int four = Arrays.asList(GROUPS).indexOf(bits.substring(5 * i, 5 * i + 5));
      if (four < 0) {
        return null;
      }
      plain[i / 2] = 16 * plain[i / 2] + four;
    }
    return plain;
  }

  /** What FORMAT makes of a track. */
  static String formatted(int track, int i, int j) {
    StringBuilder text = new StringBuilder();
    for (int sector = 0; sector < sectorsOf(track); sector++) {
      text.append(ones(40)).append(header(track, sector, i, j)).append("01010101".repeat(9));
      text.append(ones(40)).append(data()).append("01010101".repeat(8));
    }
    while (text.length() < 8 * lengthOf(track)) {
      text.append("01010101");
    }
    return text.toString();
  }

  /** Where the header of a formatted track's sector begins, behind its forty 1s. */
  static int headerAt(int sector) {
    return 8 * (122 * sector + 5);
  }

  static int dataAt(int sector) {
    return 8 * (122 * sector + 5 + 10 + 9 + 5);
  }

  /** Some bits of a ring, from a place on, round. */
  static String at(Drive drive, int track, int place, int count) {
    int size = 8 * lengthOf(track);
    StringBuilder text = new StringBuilder();
    for (int i = 0; i < count; i += 32) {
      int word = drive.bits(track, (place + i) % size);
      for (int k = 0; k < 32 && i + k < count; k++) {
        text.append(word >>> 31 - k & 1);
      }
    }
    return text.toString();
  }

  /** Turns those bits, from a place on, round, for which a 1 stands here. */
  static void turn(Drive drive, int track, int place, String where) {
    int size = 8 * lengthOf(track);
    for (int i = 0; i < where.length(); i += 32) {
      String part = where.substring(i, Math.min(where.length(), i + 32));
      int mask = Integer.parseUnsignedInt(part + zeros(32 - part.length()), 2);
      if (mask != 0) {
        drive.turn(track, (place + i) % size, mask);
      }
    }
  }

  /** Makes these bits of a ring what is told, whatever they were. */
  static void make(Drive drive, int track, int place, String bits) {
    turn(drive, track, place, exclusive(at(drive, track, place, bits.length()), bits));
  }

  private static String exclusive(String one, String other) {
    StringBuilder text = new StringBuilder();
    for (int i = 0; i < one.length(); i++) {
      text.append(one.charAt(i) == other.charAt(i) ? '0' : '1');
    }
    return text.toString();
  }
}
