/** PART 1 of the terms, sentence by sentence: bits, tracks, the group code and jobs (promises 1, 9, 10, 11 and jobs of 3 to 6). */
public final class BitsTest {
  private static final int NONE = RingDrive.NONE;
  private static final int PLACE = 1000;

  public static void main(String[] args) {
    Check.sentence("1 to 3: L 1000, S 8; 4 to 6: 880, 7; 7 to 9: 760, 6; 10 to 12: 640, 5.", BitsTest::lengthsAndSectors);
    Check.sentence("All bits are 0 at first.", BitsTest::zerosAtFirst);
    Check.sentence("of 0 to 15: 01010 01011 10010 10011 01110 01111 10110 10111 01001 11001 11010 11011 01101 11101 11110 10101.",
        BitsTest::groupCode);
    Check.sentence("Four bytes become five so, the highest bits first.", BitsTest::highestBitsFirst);
    marks();
    headers();
    reading();
    writing();
    formatting();
    takingTheId();
    Check.end();
  }

  private static void marks() {
    Check.sentence("ten 1s one behind the other, and all 1s behind these, are a MARK", BitsTest::tenOnes);
    Check.sentence("the first 0 behind a MARK is the highest bit of a byte, which is FIRST", BitsTest::firstZero);
    Check.sentence("each eight bits behind it are one more, till the next MARK", BitsTest::bytesAheadOfMark);
    Check.sentence("what has come of a byte then, its last bit being the MARK's tenth 1, too, is none", BitsTest::partOfByte);
    Check.sentence("BYTES COME as one goes along a ring, round and round", BitsTest::roundAndRound);
    Check.sentence("A JOB on a track goes along from bit 0 on (1s that lie right ahead of that count for a MARK).", BitsTest::onesAheadOfIndex);
    Check.sentence("the FIRST bytes whose highest bit lies from bit 0 to the ring's end, once.", BitsTest::roundsEdges);
  }

  private static void headers() {
    Check.sentence("SEEK s: the first FIRST byte of the ROUND with which the HEADER of s, of the track and of the ID IN HAND begins",
        BitsTest::seekTakesFirst);
    Check.sentence("it and the nine bytes that come behind it, none of them FIRST, are its ten", BitsTest::seekWithMarkInside);
    Check.sentence("Fault 21: the ROUND has no FIRST byte.", BitsTest::noFirstByte);
    Check.sentence("20: it is none of these.", BitsTest::noneOfThese);
    Check.sentence("the bytes 8, the exclusive or of s, t, i, j, then s, t, j, i, 15, 15, in group code: ten bytes.", BitsTest::eachBitOfHeader);
  }

  private static void reading() {
    Check.sentence("then the next FIRST byte that comes and the 84 that come behind it (FIRST or not)", BitsTest::nextFirstByte);
    Check.sentence("22: they don't begin with the groups of 0 and 7.", BitsTest::fault22);
    Check.sentence("24: one of the 136 groups is none.", BitsTest::fault24);
    Check.sentence("23: the exclusive or of the 64 bytes is another one.", BitsTest::fault23);
    Check.sentence("DATA of 64 bytes: 7, these, the exclusive or of these, 0, 0, in group code: 85 bytes.", BitsTest::lastTwoBytes);
  }

  private static void writing() {
    Check.sentence("WRITE s: 26 if the disk is PROTECTED (ahead of all)", BitsTest::protectedAheadOfAll);
    Check.sentence("nine bytes come behind its ten (FIRST or not)", BitsTest::nineBytes);
    Check.sentence("the bits behind the last one of these (round the ring) become forty 1s and the DATA", BitsTest::writtenRoundTheRing);
    Check.sentence("25 if these are not that DATA, or SEEK has a fault", BitsTest::fault25);
  }

  private static void formatting() {
    Check.sentence("FORMAT a track: 26 if it is PROTECTED", BitsTest::formatProtected);
    Check.sentence("forty 1s, the HEADER, nine bytes of 85, forty 1s, DATA of 64 zeros, eight bytes of 85; then bytes of 85 to the ring's end.",
        BitsTest::formatLaysOut);
  }

  private static void takingTheId() {
    Check.sentence("the first of the ROUND's first 32 FIRST bytes", BitsTest::thirtyTwo);
    Check.sentence("with which ten bytes begin (FIRST or not) whose sixteen groups are in the code", BitsTest::sixteenGroups);
    Check.sentence("the first of the eight bytes being 8, the second one the exclusive or of the next four", BitsTest::eightAndSum);
    Check.sentence("None: 74, and none is IN HAND.", BitsTest::none);
    Check.sentence("A fault of these has the track and sector of the JOB (of FORMAT 0; 74: 7, 0).", BitsTest::whereFaultsAre);
    Check.sentence("READ and WRITE TAKE the ID first if none is IN HAND (WRITE behind 26).", BitsTest::idFirst);
  }

  // ---- rings of 0s, on which one header or two lie ----

  /** A disk of 0s but for one header of track 7, by which the ID is taken; channel 2 is a buffer. */
  private static Check blank(int i, int j) {
    Check check = new Check();
    Bits.turn(check.drive, 7, 40, Bits.ones(40) + Bits.header(7, 0, i, j));
    check.open(2, "#");
    return check;
  }

  private static Check blank() {
    return blank('A', 'B');
  }

  private static void lay(Check check, int place, String bits) {
    Bits.turn(check.drive, 12, place, bits);
  }

  private static String header(int sector) {
    return Bits.header(12, sector, 'A', 'B');
  }

  /** On a ring of 0s a header without DATA is found, and so the next FIRST byte is its own: 22. */
  private static String seek(String bits, int place) {
    Check check = blank();
    lay(check, place, bits);
    return check.after("U1:2,12,3");
  }

  private static final String FOUND = "22 12 3";
  private static final String NOT_FOUND = "20 12 3";
  private static final String NO_FIRST = "21 12 3";

  private static int[] bytes(int seed) {
    int[] bytes = new int[64];
    for (int i = 0; i < 64; i++) {
      bytes[i] = i * 29 + seed * 71 + i * i & 255;
    }
    return bytes;
  }

  /** A header of sector 3, nine bytes of 0s, a MARK of ten, and what follows. */
  private static String sector(String data) {
    return Bits.ones(10) + header(3) + Bits.zeros(72) + Bits.ones(10) + data;
  }

  private static String readOf(String data) {
    Check check = blank();
    lay(check, PLACE, sector(data));
    return check.after("U1:2,12,3");
  }

  // ---- tracks ----

  private static void lengthsAndSectors() {
    for (int track = 1; track <= 12; track++) {
      Check check = Check.formatted();
      Drive drive = check.drive;
      int size = 8 * Bits.lengthOf(track);
      Check.due("the ring's end: 85", "0101", Bits.at(drive, track, size - 4, 4));
      Check.due("behind it bit 0", "1111", Bits.at(drive, track, size - 4, 8).substring(4));
      Check.due("no such bit", 0, drive.bits(track, size));
      Check.due("no such bit", false, drive.turn(track, size, -1));
      check.open(2, "#");
      int sectors = Bits.sectorsOf(track);
      Check.due("the last sector", "0 0 0", check.after("U1:2," + track + "," + (sectors - 1)));
      Check.due("one more", "66 " + track + " " + sectors, check.after("U1:2," + track + "," + sectors));
    }
    Check check = Check.formatted();
    check.open(2, "#");
    Check.due("no track 0", "66 0 0", check.after("U1:2,0,0"));
    Check.due("no track 13", "66 13 0", check.after("U1:2,13,0"));
  }

  private static void zerosAtFirst() {
    for (int track = 1; track <= 12; track++) {
      Drive drive = new Drive();
      String bits = Bits.at(drive, track, 0, 8 * Bits.lengthOf(track));
      Check.due("track " + track, -1, bits.indexOf('1'));
    }
  }

  private static void groupCode() {
    Check check = Check.formatted();
    check.open(2, "#");
    int[] bytes = new int[64];
    StringBuilder want = new StringBuilder("0101010111");
    for (int i = 0; i < 16; i++) {
      bytes[i] = 16 * i + 15 - i;
      want.append(Bits.GROUPS[i]).append(Bits.GROUPS[15 - i]);
    }
    check.write(2, Check.text(bytes));
    check.command("U2:2,12,0");
    Check.due("written", want.toString(), Bits.at(check.drive, 12, Bits.dataAt(0), want.length()));
    check.open(2, "#");
    check.command("U1:2,12,0");
    Check.due("read", Check.text(bytes), check.read(2, 64));
  }

  private static void highestBitsFirst() {
    Check check = Check.formatted();
    // Header of 12, 1 with AB: 8, sum, 1, 12, B, A, 15, 15.
    int sum = 1 ^ 12 ^ 'A' ^ 'B';
    String want = "01010" + "01001" + Bits.GROUPS[sum >> 4] + Bits.GROUPS[sum & 15] + "01010" + "01011" + "01010" + "01101"
        + "01110" + "10010" + "01110" + "01011" + "01010" + "10101" + "01010" + "10101";
    Check.due("header", want, Bits.at(check.drive, 12, Bits.headerAt(1), 80));
  }

  // ---- marks and bytes ----

  private static void tenOnes() {
    Check.due("nine", NO_FIRST, seek(Bits.ones(9) + header(3), PLACE));
    Check.due("ten", FOUND, seek(Bits.ones(10) + header(3), PLACE));
    Check.due("eleven", FOUND, seek(Bits.ones(11) + header(3), PLACE));
    Check.due("a hundred", FOUND, seek(Bits.ones(100) + header(3), PLACE));
    Check.due("ten, but not one behind the other", NO_FIRST, seek("11111011111" + "0" + header(3), PLACE));
    Check.due("nine and nine", NO_FIRST, seek(Bits.ones(9) + "0" + Bits.ones(9) + header(3), PLACE));
    for (int place = PLACE; place < PLACE + 16; place++) {
      Check.due("nine at " + place, NO_FIRST, seek(Bits.ones(9) + header(3), place));
      Check.due("ten at " + place, FOUND, seek(Bits.ones(10) + header(3), place));
    }
  }

  private static void firstZero() {
    Check.due("the header's own 0", FOUND, seek(Bits.ones(10) + header(3), PLACE));
    Check.due("a 0 more", NOT_FOUND, seek(Bits.ones(10) + "0" + header(3), PLACE));
    Check.due("a header without its 0", NOT_FOUND, seek(Bits.ones(10) + header(3).substring(1), PLACE));
  }

  /** Where the DATA can be cut: a byte that begins with 0 follows one that ends with just so many 1s. */
  private static int cut(String bits, int ones) {
    for (int at = 16; at < bits.length(); at += 8) {
      if (bits.charAt(at) == '0' && bits.substring(0, at).endsWith("0" + Bits.ones(ones))) {
        return at;
      }
    }
    return NONE;
  }

  /** Data into which 1s were put where a byte ends with some. */
  private static String withMark(String data, int ones, int more) {
    int at = cut(data, ones);
    Check.due("there is a place for it", true, at > 0);
    return data.substring(0, at) + Bits.ones(more) + data.substring(at);
  }

  private static void bytesAheadOfMark() {
    String data = Bits.data(bytes(1));
    Check.due("without a mark", "0 0 0", readOf(data));
    // Eight 1s have come as a byte when the tenth 1 makes a MARK: it is in the DATA, and no group.
    Check.due("ten behind none", "24 12 3", readOf(withMark(data, 0, 10)));
    Check.due("nine behind one", "24 12 3", readOf(withMark(data, 1, 9)));
    // Nine 1s are no MARK: bytes go on by eights.
    Check.due("eight behind one", "24 12 3", readOf(withMark(data, 1, 8)));
  }

  private static void partOfByte() {
    String data = Bits.data(bytes(1));
    Check.due("the tenth 1 is the byte's last bit", "0 0 0", readOf(withMark(data, 2, 8)));
    Check.due("and more 1s behind it", "0 0 0", readOf(withMark(data, 2, 13)));
    Check.due("the tenth 1 is its seventh bit", "0 0 0", readOf(withMark(data, 3, 7)));
    Check.due("the tenth 1 is its seventh bit, and more", "0 0 0", readOf(withMark(data, 3, 30)));
    Check check = blank();
    lay(check, PLACE, sector(withMark(data, 2, 8)));
    check.command("U1:2,12,3");
    Check.due("all bytes came", Check.text(bytes(1)), check.read(2, 64));
  }

  private static void roundAndRound() {
    // The DATA lies ahead of its header: the next FIRST byte is that of the DATA, round the ring.
    Check check = blank();
    lay(check, 100, Bits.ones(10) + Bits.data(bytes(2)));
    lay(check, 3000, Bits.ones(10) + header(3));
    Check.due("READ", "0 0 0", check.after("U1:2,12,3"));
    Check.due("bytes", Check.text(bytes(2)), check.read(2, 64));
    // The DATA lies over the ring's end.
    check = blank();
    lay(check, 5000, Bits.ones(10) + Bits.data(bytes(3)));
    lay(check, 4500, Bits.ones(10) + header(3));
    Check.due("READ", "0 0 0", check.after("U1:2,12,3"));
    Check.due("bytes", Check.text(bytes(3)), check.read(2, 64));
  }

  private static void onesAheadOfIndex() {
    for (int ahead = 1; ahead <= 10; ahead++) {
      Check.due(ahead + " ahead of bit 0", FOUND, seek(Bits.ones(10) + header(3), 5120 - ahead));
      Check.due(ahead + " ahead of bit 0, one too few", NO_FIRST, seek(Bits.ones(9) + header(3), 5120 - ahead));
    }
    Check.due("forty ahead of bit 0", FOUND, seek(Bits.ones(40) + header(3), 5080));
    Check check = new Check();
    Bits.turn(check.drive, 7, 8 * 760 - 10, Bits.ones(10) + Bits.header(7, 0, 'X', 'Y'));
    check.command("I");
    Check.due("to TAKE the ID, too", 'X', check.drive.look(5));
    check = new Check();
    Bits.turn(check.drive, 7, 8 * 760 - 5, Bits.ones(9) + Bits.header(7, 0, 'X', 'Y'));
    Check.due("nine are no MARK", "74 7 0", check.after("I"));
  }

  private static void roundsEdges() {
    Check.due("highest bit at bit 0", FOUND, seek(Bits.ones(10) + header(3), 5110));
    Check.due("highest bit at the ring's last bit", FOUND, seek(Bits.ones(10) + header(3), 5109));
    // That at bit 0 comes first, though its MARK lies at the ring's end.
    Check check = blank();
    lay(check, 5110, Bits.ones(10) + header(3) + Bits.zeros(72) + Bits.ones(10) + Bits.data(bytes(4)));
    lay(check, 2000, sector(Bits.data(bytes(5))));
    check.command("U1:2,12,3");
    Check.due("the one at bit 0", Check.text(bytes(4)), check.read(2, 64));
    // That with its highest bit at the ring's last bit comes last.
    check = blank();
    lay(check, 5109, Bits.ones(10) + header(3) + Bits.zeros(72) + Bits.ones(10) + Bits.data(bytes(4)));
    lay(check, 2000, sector(Bits.data(bytes(5))));
    check.command("U1:2,12,3");
    Check.due("the other one", Check.text(bytes(5)), check.read(2, 64));
  }

  // ---- SEEK ----

  private static void seekTakesFirst() {
    Check check = blank();
    lay(check, 500, sector(Bits.data(bytes(6))));
    lay(check, 2500, sector(Bits.data(bytes(7))));
    check.command("U1:2,12,3");
    Check.due("of two headers the first", Check.text(bytes(6)), check.read(2, 64));
    Check.due("another sector", NOT_FOUND, seek(Bits.ones(10) + header(2), PLACE));
    Check.due("another track", NOT_FOUND, seek(Bits.ones(10) + Bits.header(11, 3, 'A', 'B'), PLACE));
    Check.due("another ID", NOT_FOUND, seek(Bits.ones(10) + Bits.header(12, 3, 'A', 'C'), PLACE));
    Check.due("another ID", NOT_FOUND, seek(Bits.ones(10) + Bits.header(12, 3, 'C', 'B'), PLACE));
    Check.due("the ID the other way round", NOT_FOUND, seek(Bits.ones(10) + Bits.header(12, 3, 'B', 'A'), PLACE));
  }

  /** An ID whose header of track t, sector 3 can be cut by a MARK: its bytes come, but one is FIRST. */
  private static int idWithCut(int track) {
    for (int id = 0; id < 65536; id++) {
      if (cut(Bits.header(track, 3, id >> 8, id & 255), 2) > 0) {
        return id;
      }
    }
    return NONE;
  }

  private static void seekWithMarkInside() {
    int id = idWithCut(12);
    String header = Bits.header(12, 3, id >> 8, id & 255);
    Check check = blank(id >> 8, id & 255);
    lay(check, PLACE, Bits.ones(10) + header);
    Check.due("whole", FOUND, check.after("U1:2,12,3"));
    check = blank(id >> 8, id & 255);
    lay(check, PLACE, Bits.ones(10) + withMark(header, 2, 8));
    Check.due("with a FIRST byte inside", NOT_FOUND, check.after("U1:2,12,3"));
  }

  private static void noFirstByte() {
    Check.due("a ring of 0s", NO_FIRST, seek("", PLACE));
    Check.due("nine 1s", NO_FIRST, seek(Bits.ones(9), PLACE));
    Check check = blank();
    Bits.turn(check.drive, 12, 0, Bits.ones(5120));
    Check.due("a ring of 1s", NO_FIRST, check.after("U1:2,12,3"));
    check = blank();
    Check.due("WRITE, too", NO_FIRST, check.after("U2:2,12,3"));
  }

  private static void noneOfThese() {
    Check.due("one FIRST byte", NOT_FOUND, seek(Bits.ones(10), PLACE));
    Check check = blank();
    Bits.turn(check.drive, 12, 0, Bits.ones(4000) + "0" + Bits.ones(1119));
    Check.due("a ring of 1s with one 0", NOT_FOUND, check.after("U1:2,12,3"));
    check = blank();
    lay(check, PLACE, Bits.ones(10) + header(2));
    Check.due("WRITE, too", NOT_FOUND, check.after("U2:2,12,3"));
    Check.due("and nothing is written", Bits.zeros(320), Bits.at(check.drive, 12, PLACE + 90, 320));
  }

  private static void eachBitOfHeader() {
    Check check = blank();
    lay(check, PLACE, Bits.ones(10) + header(3));
    for (int bit = 0; bit < 80; bit++) {
      check.drive.turn(12, PLACE + 10 + bit, 1 << 31);
      Check.due("bit " + bit + " turned", 20, check.command("U1:2,12,3"));
      check.drive.turn(12, PLACE + 10 + bit, 1 << 31);
    }
    Check.due("as it was", FOUND, check.after("U1:2,12,3"));
  }

  // ---- READ ----

  private static void nextFirstByte() {
    String data = Bits.data(bytes(8));
    Check check = blank();
    lay(check, PLACE, Bits.ones(10) + header(3) + Bits.zeros(1000) + Bits.ones(10) + data);
    Check.due("far behind", "0 0 0", check.after("U1:2,12,3"));
    Check.due("bytes", Check.text(bytes(8)), check.read(2, 64));
    check = blank();
    lay(check, PLACE, Bits.ones(10) + header(3) + Bits.ones(10) + data);
    Check.due("right behind", "0 0 0", check.after("U1:2,12,3"));
    check = blank();
    lay(check, PLACE, Bits.ones(10) + header(3) + Bits.zeros(72) + Bits.ones(9) + data + Bits.zeros(72) + Bits.ones(10)
        + Bits.data(bytes(9)));
    Check.due("behind a mark of nine", "0 0 0", check.after("U1:2,12,3"));
    Check.due("the DATA behind that", Check.text(bytes(9)), check.read(2, 64));
    check = blank();
    lay(check, PLACE, Bits.ones(10) + header(3) + Bits.zeros(72) + Bits.ones(10) + header(2) + Bits.ones(10) + data);
    Check.due("another header comes first", "22 12 3", check.after("U1:2,12,3"));
    Check.due("a MARK among the 85", "0 0 0", readOf(withMark(data, 2, 9)));
    // The header's last bit and nine 1s behind it are a MARK, whatever was READ before.
    check = blank();
    lay(check, PLACE, sector(data));
    lay(check, 3000, Bits.ones(10) + header(2) + Bits.ones(9) + Bits.data(bytes(9)));
    Check.due("one", "0 0 0", check.after("U1:2,12,3"));
    Check.due("a MARK that begins in the header", "0 0 0", check.after("U1:2,12,2"));
    Check.due("its bytes", Check.text(bytes(9)), check.read(2, 64));
  }

  private static String changed(String bits, int at, String by) {
    return bits.substring(0, at) + by + bits.substring(at + by.length());
  }

  private static void fault22() {
    String data = Bits.data(bytes(1));
    for (int group : new int[] {1, 4, 5, 8, 12}) {
      Check.due("first group of " + group, "22 12 3", readOf(changed(data, 0, Bits.GROUPS[group])));
    }
    for (int group = 0; group < 16; group++) {
      Check.due("second group of " + group, group == 7 ? "0 0 0" : "22 12 3", readOf(changed(data, 5, Bits.GROUPS[group])));
    }
    Check.due("no group at all", "22 12 3", readOf(changed(data, 0, "00000")));
    Check.due("22 is ahead of 24", "22 12 3", readOf(changed(changed(data, 5, "10110"), 600, "00000")));
  }

  private static void fault24() {
    String data = Bits.data(bytes(1));
    for (int group : new int[] {2, 3, 50, 129, 130, 131, 132, 133, 134, 135}) {
      Check.due("group " + group, "24 12 3", readOf(changed(data, 5 * group, "00000")));
    }
    for (String none : new String[] {"00000", "00001", "00010", "00011", "00100", "00101", "00110", "00111", "01000", "01100", "10000",
        "10001", "10100", "11000", "11100", "11111"}) {
      Check.due("group " + none, "24 12 3", readOf(changed(Bits.data(), 5 * 40, none)));
    }
    Check.due("24 is ahead of 23", "24 12 3", readOf(changed(changed(data, 100, "01010"), 5 * 135, "00000")));
  }

  private static void fault23() {
    String data = Bits.data();
    for (int group : new int[] {2, 3, 66, 128, 129, 130, 131}) {
      Check.due("group " + group, "23 12 3", readOf(changed(data, 5 * group, Bits.GROUPS[1])));
    }
    Check.due("two that are the same again", "0 0 0", readOf(changed(changed(data, 5 * 3, Bits.GROUPS[1]), 5 * 129, Bits.GROUPS[1])));
    Check check = blank();
    check.write(2, "!".repeat(64));
    lay(check, PLACE, sector(changed(data, 5 * 4, Bits.GROUPS[1])));
    Check.due("23", "23 12 3", check.after("U1:2,12,3"));
    Check.due("the BUFFER has no byte of it", "!".repeat(64), check.read(2, 64));
  }

  private static void lastTwoBytes() {
    for (int group = 132; group <= 135; group++) {
      Check.due("others than 0", "0 0 0", readOf(changed(Bits.data(bytes(1)), 5 * group, Bits.GROUPS[9])));
    }
  }

  // ---- WRITE ----

  private static void protectedAheadOfAll() {
    Check check = new Check();
    check.open(2, "#");
    check.drive.protect(true);
    Check.due("without an ID", "26 12 3", check.after("U2:2,12,3"));
    Check.due("none was taken", NONE, check.drive.look(5));
    check.drive.protect(false);
    Check.due("not protected", "74 7 0", check.after("U2:2,12,3"));
    check = blank();
    check.drive.protect(true);
    Check.due("without a header", "26 12 3", check.after("U2:2,12,3"));
    check.drive.protect(false);
    Check.due("not protected", "21 12 3", check.after("U2:2,12,3"));
    lay(check, PLACE, Bits.ones(10) + header(3));
    check.drive.protect(true);
    Check.due("with a header", "26 12 3", check.after("U2:2,12,3"));
    Check.due("nothing is written", Bits.zeros(320), Bits.at(check.drive, 12, PLACE + 90, 320));
    Check.due("READ isn't hindered", "22 12 3", check.after("U1:2,12,3"));
  }

  /** Writes sector 3 behind a header and a gap, and tells where its forty 1s lie, counted from the header's end. */
  private static void writes(String gap, int wantAt, String wantStatus) {
    Check check = blank();
    lay(check, PLACE, Bits.ones(10) + header(3) + gap);
    check.write(2, Check.text(bytes(10)));
    Check.due("WRITE", wantStatus, check.after("U2:2,12,3"));
    int end = PLACE + 90;
    Check.due("the gap stays", (gap + Bits.zeros(100)).substring(0, wantAt), Bits.at(check.drive, 12, end, wantAt));
    Check.due("forty 1s and the DATA", Bits.ones(40) + Bits.data(bytes(10)), Bits.at(check.drive, 12, end + wantAt, 720));
    Check.due("none behind it", Bits.zeros(32), Bits.at(check.drive, 12, end + wantAt + 720, 32));
  }

  private static void nineBytes() {
    writes("", 72, "0 0 0");
    writes("01010101".repeat(9), 72, "0 0 0");
    // A MARK among the nine: what it cut off is no byte. The DATA isn't the next one that is FIRST then.
    writes(Bits.zeros(16) + "000" + Bits.ones(10), 77, "25 12 3");
    writes(Bits.zeros(16) + "00000011" + Bits.ones(8), 80, "25 12 3");
    writes(Bits.zeros(16) + "00000001" + Bits.ones(8), 72, "0 0 0");
    // Two FIRST bytes among the nine.
    writes(Bits.ones(20) + Bits.zeros(8) + Bits.ones(10) + Bits.zeros(8), 20 + 8 + 10 + 8 * 6, "25 12 3");
  }

  private static void writtenRoundTheRing() {
    for (int place : new int[] {4000, 4148, 4500, 4501, 4502, 4503, 4504, 4505, 4506, 4507, 4958, 4990, 5030, 5110}) {
      Check check = blank();
      lay(check, place, Bits.ones(10) + header(3));
      check.write(2, Check.text(bytes(11)));
      Check.due("WRITE at " + place, "0 0 0", check.after("U2:2,12,3"));
      Check.due("over the ring's end", Bits.ones(40) + Bits.data(bytes(11)), Bits.at(check.drive, 12, (place + 162) % 5120, 720));
      Check.due("READ", "0 0 0", check.after("U1:2,12,3"));
      Check.due("bytes", Check.text(bytes(11)), check.read(2, 64));
    }
  }

  private static void fault25() {
    // A FIRST byte in the gap comes ahead of the DATA.
    writes(Bits.ones(10), 74, "25 12 3");
    // On a ring of 1s the nine bytes are 255 and eight of the header, which so is spoiled.
    Check check = blank();
    String ring = Bits.ones(PLACE) + header(3) + Bits.ones(5120 - PLACE - 80);
    Bits.turn(check.drive, 12, 0, ring);
    check.write(2, Check.text(bytes(12)));
    Check.due("SEEK has a fault", "25 12 3", check.after("U2:2,12,3"));
    Check.due("what was written stays", header(3).substring(0, 64) + Bits.ones(40) + Bits.data(bytes(12)),
        Bits.at(check.drive, 12, PLACE, 64 + 720));
    // DATA that can be READ lies in the gap.
    check = Check.formatted();
    check.spoilWriting(12, 3);
    check.open(2, "#");
    Check.due("READ", "0 0 0", check.after("U1:2,12,3"));
    Check.due("WRITE", "25 12 3", check.after("U2:2,12,3"));
  }

  // ---- FORMAT ----

  private static void formatProtected() {
    Check check = Check.formatted();
    check.drive.protect(true);
    Check.due("26", "26 12 0", check.after("N:OTHER,CD"));
    Check.due("nothing is written", Bits.header(12, 0, 'A', 'B'), Bits.at(check.drive, 12, 40, 80));
    Check.due("the ID stays IN HAND", 'A', check.drive.look(5));
    Check.due("the ID stays IN HAND", 'B', check.drive.look(6));
  }

  private static void formatLaysOut() {
    for (int track = 1; track <= 12; track++) {
      Check check = new Check();
      Bits.turn(check.drive, track, 8 * Bits.lengthOf(track) - 40, Bits.ones(200)); // what was there goes
      check.command("N:DISK,AB");
      String want = Bits.formatted(track, 'A', 'B');
      String got = Bits.at(check.drive, track, 0, want.length());
      if (track == 7) { // its first two sectors were written behind that
        want = want.substring(2 * 122 * 8);
        got = got.substring(2 * 122 * 8);
      }
      Check.due("track " + track, want, got);
    }
  }

  // ---- TAKE the ID ----

  private static String takes(String bits) {
    Check check = new Check();
    Bits.turn(check.drive, 7, 0, bits);
    int number = check.command("I");
    return number == 74 ? check.status() : check.drive.look(5) + " " + check.drive.look(6);
  }

  private static final String NO_ID = "74 7 0";

  private static void thirtyTwo() {
    String mark = Bits.ones(10) + Bits.zeros(22);
    String header = Bits.ones(10) + Bits.header(7, 0, 'X', 'Y');
    Check.due("the 1st", "88 89", takes(header));
    Check.due("the 31st", "88 89", takes(mark.repeat(30) + header));
    Check.due("the 32nd", "88 89", takes(mark.repeat(31) + header));
    Check.due("the 33rd", NO_ID, takes(mark.repeat(32) + header));
    Check.due("the first of two", "88 89", takes(header + Bits.zeros(50) + Bits.ones(10) + Bits.header(7, 1, 'A', 'B')));
    Check.due("of another track and sector", "88 89", takes(Bits.ones(10) + Bits.header(200, 99, 'X', 'Y')));
  }

  private static void sixteenGroups() {
    String header = Bits.header(7, 3, 'X', 'Y');
    for (int group = 1; group < 16; group++) {
      Check.due("group " + group, NO_ID, takes(Bits.ones(10) + changed(header, 5 * group, "00000")));
    }
    Check.due("the last two bytes may be others", "88 89", takes(Bits.ones(10) + changed(header, 60, Bits.coded(0x12, 0x34))));
    Check.due("a good one behind it", "88 89", takes(Bits.ones(10) + changed(header, 75, "00000") + Bits.ones(10) + header));
    int id = idWithCut(7);
    String cut = withMark(Bits.header(7, 3, id >> 8, id & 255), 2, 8);
    Check.due("one of the ten is FIRST", (id >> 8) + " " + (id & 255), takes(Bits.ones(10) + cut));
    Check.due("over the ring's end", "88 89", takes(header.substring(40) + Bits.zeros(8 * 760 - 50 - 40) + Bits.ones(10) + header.substring(0, 40)));
  }

  private static void eightAndSum() {
    for (int first = 0; first < 16; first++) {
      String bits = Bits.ones(10) + Bits.coded(first, 1 ^ 2 ^ 'Y' ^ 'X', 1, 2, 'Y', 'X', 15, 15);
      Check.due("first byte " + first, first == 8 ? "88 89" : NO_ID, takes(bits));
    }
    for (int bit = 1; bit < 256; bit *= 2) {
      String bits = Bits.ones(10) + Bits.coded(8, 1 ^ 2 ^ 'Y' ^ 'X' ^ bit, 1, 2, 'Y', 'X', 15, 15);
      Check.due("another exclusive or", NO_ID, takes(bits));
    }
  }

  private static void none() {
    Check check = Check.formatted();
    for (int sector = 0; sector < 6; sector++) {
      check.spoil(7, sector);
    }
    Check.due("an ID is IN HAND", 'A', check.drive.look(5));
    Check.due("74", "74 7 0", check.after("I"));
    Check.due("none is IN HAND", NONE, check.drive.look(5));
    Check.due("none is IN HAND", NONE, check.drive.look(6));
    check.spoil(7, 5);
    Check.due("the last header alone", "20 7 0", check.after("I"));
    Check.due("its ID", 'A', check.drive.look(5));
    Check.due("its ID", 'B', check.drive.look(6));
    check = new Check();
    Bits.turn(check.drive, 7, 0, Bits.ones(6080));
    Check.due("a ring of 1s", "74 7 0", check.after("I"));
  }

  private static void whereFaultsAre() {
    Check check = Check.formatted();
    check.open(2, "#");
    check.spoil(11, 4);
    Check.due("READ", "20 11 4", check.after("U1:2,11,4"));
    Check.due("WRITE", "20 11 4", check.after("U2:2,11,4"));
    check.spoilSum(11, 3);
    Check.due("READ", "23 11 3", check.after("U1:2,11,3"));
    check.drive.protect(true);
    Check.due("WRITE", "26 11 3", check.after("U2:2,11,3"));
    Check.due("FORMAT", "26 12 0", check.after("N:A,BC"));
    check = new Check();
    check.open(2, "#");
    Check.due("TAKE", "74 7 0", check.after("U1:2,11,3"));
  }

  private static void idFirst() {
    Check check = Check.formatted();
    check.command("UI");
    check.open(2, "#");
    Check.due("READ", "0 0 0", check.after("U1:2,1,1"));
    Check.due("took it", 'A', check.drive.look(5));
    check.command("UI");
    check.open(2, "#");
    Check.due("WRITE", "0 0 0", check.after("U2:2,1,1"));
    Check.due("took it", 'B', check.drive.look(6));
    for (int sector = 0; sector < 6; sector++) {
      check.spoil(7, sector);
    }
    Check.due("that IN HAND serves READ", "0 0 0", check.after("U1:2,1,1"));
    Check.due("that IN HAND serves WRITE", "0 0 0", check.after("U2:2,1,1"));
    check.command("UI");
    check.open(2, "#");
    Check.due("READ without", "74 7 0", check.after("U1:2,1,1"));
    Check.due("WRITE without", "74 7 0", check.after("U2:2,1,1"));
    check.drive.protect(true);
    Check.due("WRITE behind 26", "26 1 1", check.after("U2:2,1,1"));
  }
}
