/** The thirteen promises, sentence by sentence, as far as they are the host's: what is refused, the tape, OUT, look(), bits and power. */
public final class HostTest {
  private static final int NONE = RingDrive.NONE;
  private static final int[] NO_CHANNELS = {-1, 16, 17, 255, Integer.MIN_VALUE, Integer.MAX_VALUE};

  public static void main(String[] args) {
    Check.sentence("`NONE = -1`: There is none.", () -> Check.due("NONE", -1, RingDrive.NONE));
    Check.sentence("Rings of 0s, not protected, power on: all channels closed, no ID in hand, the PROGRAM's memory 0.", HostTest::aNewObject);
    Check.sentence("All memory is the drive's own.", HostTest::itsOwn);
    Check.sentence("A call that is refused (NONE, false) changes nothing.", HostTest::refusedChangesNothing);
    tape();
    bytes();
    looks();
    rings();
    Check.end();
  }

  private static void tape() {
    Check.sentence("Twenty bytes come behind the TAPE, the highest of each int first: how many it has; NONE if that would be more than 400.",
        HostTest::feeding);
    Check.sentence("The first n bytes of the TAPE (empty then) are sent for channel c to be opened: the STATUS's number", HostTest::firstBytes);
    Check.sentence("NONE: no such channel (0 to 15), n below 0 or above what it has.", HostTest::openRefused);
    Check.sentence("They are sent for channel c (15: a command, as OPEN's): likewise.", HostTest::writing);
    Check.sentence("(n 0: nothing is done.)", HostTest::writingNothing);
  }

  private static void bytes() {
    Check.sentence("Channel c is closed: likewise.", HostTest::closing);
    Check.sentence("Up to n bytes (1 to 300) of channel c come, up to the END: how many (OUT has these)", HostTest::reading);
    Check.sentence("NONE: another n, no such channel.", HostTest::readRefused);
    Check.sentence("Byte i of OUT; NONE if there is none.", HostTest::outs);
  }

  private static void looks() {
    Check.sentence("What 0, 1, 2: the STATUS's number, track, sector", HostTest::lookAtStatus);
    Check.sentence("3: 1 if the latest read()'s last byte was the END, else 0", HostTest::lookAtEnd);
    Check.sentence("4: bytes of the TAPE", HostTest::lookAtTape);
    Check.sentence("5, 6: the ID IN HAND's bytes (NONE: none)", HostTest::lookAtId);
    Check.sentence("7: open channels of 0 to 14", HostTest::lookAtChannels);
    Check.sentence("13 where it ended (that code's address; by cycles the next one's), 14 cycles (0 ahead of any).", HostTest::lookAtProgram);
    Check.sentence("NONE for others.", HostTest::lookAtOthers);
  }

  private static void rings() {
    Check.sentence("The 32 bits of a track's ring from bit at on (round), the first one the highest; 0 if there is no such track or bit.",
        HostTest::bitsOfRings);
    Check.sentence("These bits are turned where mask has 1s: true; false if there is no such track or bit.", HostTest::turning);
    Check.sentence("The disk is PROTECTED, or not.", HostTest::protecting);
    Check.sentence("Power off and on: all but the disk (rings, PROTECTED) and the TAPE is as at first.", HostTest::power);
    Check.sentence("Byte at of the PROGRAM's memory; NONE if there is none.", HostTest::memories);
  }

  private static void looksLike(Drive drive, String when, int... want) {
    for (int what = 0; what < want.length; what++) {
      Check.due("look(" + what + ") " + when, want[what], drive.look(what));
    }
  }

  private static void aNewObject() {
    looksLike(new Drive(), "at first", 73, 0, 0, 0, 0, NONE, NONE, 0, 0, 0, 0, 0, 0, 0, 0);
    Drive drive = new Drive();
    for (int at = 0; at < 2048; at++) {
      drive = drive.left() == 0 ? new Drive() : drive;
      Check.due("memory", 0, drive.memory(at));
    }
    for (int track = 1; track <= 12; track++) {
      drive = new Drive();
      Check.due("ring " + track, -1, Bits.at(drive, track, 0, 8 * Bits.lengthOf(track)).indexOf('1'));
    }
    Check.due("out(0)", NONE, new Drive().out(0));
    for (int c = 0; c < 15; c++) {
      Check check = new Check();
      Check.due("channel " + c + " is closed", "61 0 0", check.afterRead(c, 1));
      Check.due("channel " + c + " is closed", "61 0 0", check.afterWrite(c, "A"));
    }
    Check check = new Check();
    check.open(2, "#");
    Check.due("not protected", "74 7 0", check.after("U2:2,1,0"));
    check = new Check();
    Check.due("not protected", "0 0 0", check.after("N:A,BC"));
  }

  private static void itsOwn() {
    Check one = Check.formatted();
    Check other = new Check();
    one.open(2, "#");
    one.command("M-W" + Check.text(0, 0, 1, 9));
    one.drive.protect(true);
    one.tape("ABC");
    Check.due("rings", 0, other.drive.bits(12, 0));
    Check.due("channels", 0, other.drive.look(7));
    Check.due("ID", NONE, other.drive.look(5));
    Check.due("memory", 0, other.drive.memory(0));
    Check.due("tape", 0, other.drive.look(4));
    Check.due("not protected", "0 0 0", other.after("N:A,BC"));
    Check.due("the first one's", 'A', one.drive.look(5));
  }

  private static void refusedChangesNothing() {
    Check check = Check.formatted();
    Drive drive = check.drive;
    check.open(2, "A,W");
    check.write(2, "XY");
    check.command("M-W" + Check.text(0, 0, 4, 'P', 'Q', 'R', 'S'));
    check.command("B-A:12,9");
    Check.due("part of the STATUS", "66,", check.read(15, 3));
    drive.feed(0x49490000, 0, 0, 0, 0);
    for (int c : NO_CHANNELS) {
      Check.due("open", NONE, drive.open(c, 1));
      Check.due("write", NONE, drive.write(c, 1));
      Check.due("close", NONE, drive.close(c));
      Check.due("read", NONE, drive.read(c, 1));
    }
    for (int n : new int[] {-1, 21, Integer.MIN_VALUE, Integer.MAX_VALUE}) {
      Check.due("open", NONE, drive.open(2, n));
      Check.due("write", NONE, drive.write(2, n));
      Check.due("command", NONE, drive.open(15, n));
      Check.due("command", NONE, drive.write(15, n));
    }
    for (int n : new int[] {0, -1, 301}) {
      Check.due("read", NONE, drive.read(2, n));
      Check.due("read", NONE, drive.read(15, n));
    }
    Check.due("turn", false, drive.turn(0, 0, -1));
    Check.due("turn", false, drive.turn(12, 5120, -1));
    looksLike(drive, "behind refused calls", 66, 12, 9, 0, 20, 'A', 'B', 1, 0);
    Check.due("OUT", "66,", Check.text(drive.out(0), drive.out(1), drive.out(2)));
    Check.due("OUT", NONE, drive.out(3));
    Check.due("rings", -1, drive.bits(12, 0));
    Check.due("the rest of the STATUS", "ILLEGAL BLOCK,12,09\r", check.read(15, 300));
    Check.due("the TAPE", 0, drive.open(15, 1));
    Check.due("the FILE", "0 0 0", check.afterClose(2));
    Check.due("the FILE", Check.text(0, 3) + "XY", check.block(6, 0, 0, 4));
    for (int i = 0; i < 20; i++) {
      drive.feed(0x49490000, 0, 0, 0, i);
    }
    Check.due("feed", NONE, drive.feed(1, 2, 3, 4, 5));
    Check.due("the TAPE", 400, drive.look(4));
    Check.due("the TAPE", 0, drive.open(15, 1));
  }

  // ---- the tape ----

  private static void feeding() {
    Check check = new Check();
    for (int i = 1; i <= 20; i++) {
      Check.due("feed", 20 * i, check.drive.feed(1, 2, 3, 4, 5));
    }
    Check.due("more than 400", NONE, check.drive.feed(1, 2, 3, 4, 5));
    Check.due("it has", 400, check.drive.look(4));
    check.drive.open(15, 0);
    Check.due("from the begin again", 20, check.drive.feed(1, 2, 3, 4, 5));
    check.drive.open(15, 0);
    check.open(2, "#");
    check.drive.feed(0x01020304, -1, 0, 0x80FF7F00, 0x0A0B0C0D);
    check.drive.feed(0x11121314, 0x15161718, Integer.MIN_VALUE, Integer.MAX_VALUE, 0x1E1F2021);
    check.drive.write(2, 40);
    check.command("B-P:2,0");
    Check.due("the highest byte first", Check.text(1, 2, 3, 4, 255, 255, 255, 255, 0, 0, 0, 0, 128, 255, 127, 0, 10, 11, 12, 13,
        0x11, 0x12, 0x13, 0x14, 0x15, 0x16, 0x17, 0x18, 128, 0, 0, 0, 127, 255, 255, 255, 0x1E, 0x1F, 0x20, 0x21), check.read(2, 40));
  }

  private static void firstBytes() {
    Check check = new Check();
    check.tape("XYZ");
    Check.due("one byte of them", 31, check.drive.open(15, 1));
    Check.due("empty then", 0, check.drive.look(4));
    check.tape("#ABC");
    Check.due("one byte of them", 0, check.drive.open(2, 1));
    Check.due("empty then", 0, check.drive.look(4));
    check.tape("#ABC");
    Check.due("two bytes of them", 30, check.drive.open(2, 2));
    check.tape("#");
    Check.due("all of them", 30, check.drive.open(2, 20));
    Check.due("without a TAPE", 34, check.drive.open(2, 0));
    check.tape("A".repeat(400));
    Check.due("400", 32, check.drive.open(2, 400));
    Check.due("empty then", 0, check.drive.look(4));
    check.tape("A");
    Check.due("none of them", 34, check.drive.open(2, 0));
    Check.due("empty then", 0, check.drive.look(4));
  }

  private static void openRefused() {
    Check check = new Check();
    for (int c : NO_CHANNELS) {
      Check.due("channel " + c, NONE, check.drive.open(c, 0));
    }
    for (int c = 0; c < 15; c++) {
      Check.due("channel " + c, 34, check.drive.open(c, 0));
    }
    Check.due("channel 15", 34, check.drive.open(15, 0));
    Check.due("more than none", NONE, check.drive.open(2, 1));
    check.tape("#");
    Check.due("21 of 20", NONE, check.drive.open(2, 21));
    Check.due("-1", NONE, check.drive.open(2, -1));
    Check.due("the least", NONE, check.drive.open(2, Integer.MIN_VALUE));
    Check.due("the most", NONE, check.drive.open(2, Integer.MAX_VALUE));
    Check.due("20 of 20", 30, check.drive.open(2, 20));
  }

  private static void writing() {
    Check check = new Check();
    for (int c : NO_CHANNELS) {
      Check.due("channel " + c, NONE, check.drive.write(c, 0));
    }
    for (int n : new int[] {-1, 1, Integer.MIN_VALUE, Integer.MAX_VALUE}) {
      Check.due("n " + n, NONE, check.drive.write(2, n));
    }
    check.open(2, "#");
    check.tape("ABC");
    Check.due("21 of 20", NONE, check.drive.write(2, 21));
    Check.due("two of them", 0, check.drive.write(2, 2));
    Check.due("empty then", 0, check.drive.look(4));
    check.command("B-P:2,0");
    Check.due("two came", "AB\0", check.read(2, 3));
    Check.due("400", 0, check.write(2, Check.many(400)));
    Check.due("empty then", 0, check.drive.look(4));
    Check.due("a command", 31, check.write(15, "X"));
    Check.due("a command of 40", 31, check.write(15, "X".repeat(40)));
    Check.due("a command of 41, as OPEN's", 32, check.write(15, "X".repeat(41)));
    Check.due("a fault's number", 61, check.write(3, "X"));
  }

  private static void writingNothing() {
    Check check = new Check();
    Check.due("to 15", 73, check.drive.write(15, 0));
    Check.due("to a channel that is closed", 73, check.drive.write(2, 0));
    check.open(2, "#");
    check.command("B-A:66,77");
    Check.due("to a BUFFER", 66, check.drive.write(2, 0));
    Check.due("the STATUS stays", "66 66 77", check.status());
    check.command("M-R" + Check.text(0, 0, 3));
    check.drive.write(2, 0);
    check.drive.write(15, 0);
    Check.due("the bytes of M-R stay", 3, check.drive.read(15, 300));
    Check.due("the BUFFER stays", 64, check.drive.read(2, 300));
  }

  // ---- closing and reading ----

  private static void closing() {
    Check check = new Check();
    for (int c : NO_CHANNELS) {
      Check.due("channel " + c, NONE, check.drive.close(c));
    }
    Check.due("the STATUS stays", 73, check.drive.look(0));
    for (int c = 0; c < 15; c++) {
      check.open(c, "#");
      Check.due("open", 1, check.drive.look(7));
      check.command("X");
      Check.due("channel " + c, 0, check.drive.close(c));
      Check.due("closed", 0, check.drive.look(7));
    }
    check.open(0, "#");
    check.open(14, "#");
    Check.due("15", 0, check.drive.close(15));
    Check.due("all are closed", 0, check.drive.look(7));
    check.command("N:A,BC");
    check.open(2, "A,W");
    check.drive.protect(true);
    Check.due("a fault's number", 26, check.drive.close(2));
  }

  private static void reading() {
    Check check = Check.formatted();
    check.file("A", Check.many(350));
    check.open(2, "A");
    Check.due("1", 1, check.drive.read(2, 1));
    Check.due("300", 300, check.drive.read(2, 300));
    Check.due("no END", 0, check.drive.look(3));
    Check.due("the first of them", Check.many(2).charAt(1), check.drive.out(0));
    Check.due("the last of them", Check.many(301).charAt(300), check.drive.out(299));
    Check.due("up to the END", 49, check.drive.read(2, 300));
    Check.due("END", 1, check.drive.look(3));
    Check.due("the last of them", Check.many(350).charAt(349), check.drive.out(48));
    Check.due("none behind it", NONE, check.drive.out(49));
    Check.due("15, up to the END", 12, check.drive.read(15, 300));
    Check.due("END", 1, check.drive.look(3));
    Check.due("15", 12, check.drive.read(15, 12));
    Check.due("15", 11, check.drive.read(15, 11));
    Check.due("no END", 0, check.drive.look(3));
  }

  private static void readRefused() {
    Check check = new Check();
    check.open(2, "#");
    for (int c : NO_CHANNELS) {
      Check.due("channel " + c, NONE, check.drive.read(c, 1));
    }
    for (int n : new int[] {0, -1, 301, Integer.MIN_VALUE, Integer.MAX_VALUE}) {
      Check.due("n " + n, NONE, check.drive.read(2, n));
      Check.due("n " + n, NONE, check.drive.read(3, n));
      Check.due("n " + n, NONE, check.drive.read(15, n));
    }
    Check.due("300", 64, check.drive.read(2, 300));
    Check.due("1", 1, check.drive.read(2, 1));
    Check.due("the last channel", 0, check.drive.read(14, 300));
  }

  private static void outs() {
    Check check = new Check();
    Check.due("ahead of any read()", NONE, check.drive.out(0));
    check.open(2, "#");
    check.write(2, Check.text(255, 0, 128, 127));
    check.command("B-P:2,0");
    check.drive.read(2, 4);
    int[] want = {255, 0, 128, 127};
    for (int i = 0; i < 4; i++) {
      Check.due("out(" + i + ")", want[i], check.drive.out(i));
    }
    for (int i : new int[] {-1, 4, 5, 299, 300, 301, Integer.MIN_VALUE, Integer.MAX_VALUE}) {
      Check.due("out(" + i + ")", NONE, check.drive.out(i));
    }
    check.drive.read(2, 1);
    Check.due("fewer than before", NONE, check.drive.out(1));
    Check.due("fewer than before", 0, check.drive.out(0));
    check.drive.read(9, 5);
    Check.due("none came", NONE, check.drive.out(0));
  }

  // ---- look() ----

  private static void lookAtStatus() {
    Check check = Check.formatted();
    looksLike(check.drive, "behind N", 0, 0, 0);
    check.command("B-A:200,100");
    looksLike(check.drive, "behind a fault", 66, 200, 100);
    check.command("B-A:7,1");
    looksLike(check.drive, "behind another one", 65, 7, 2);
  }

  private static void lookAtEnd() {
    Check check = new Check();
    Check.due("ahead of any", 0, check.drive.look(3));
    check.open(2, "#");
    check.drive.read(2, 63);
    Check.due("not the END", 0, check.drive.look(3));
    check.drive.read(2, 1);
    Check.due("the END", 1, check.drive.look(3));
    check.command("X");
    check.drive.read(2, 0);
    check.drive.read(16, 1);
    Check.due("commands and refused calls leave it", 1, check.drive.look(3));
    check.drive.read(9, 1);
    Check.due("no byte", 0, check.drive.look(3));
    check.drive.read(15, 300);
    Check.due("the END of 15", 1, check.drive.look(3));
    check.drive.read(15, 1);
    Check.due("not the END", 0, check.drive.look(3));
  }

  private static void lookAtTape() {
    Check check = new Check();
    for (int i = 1; i <= 20; i++) {
      check.drive.feed(0, 0, 0, 0, 0);
      Check.due("fed", 20 * i, check.drive.look(4));
    }
    check.drive.open(15, 1);
    Check.due("sent", 0, check.drive.look(4));
    check.drive.feed(0, 0, 0, 0, 0);
    check.drive.read(15, 1);
    check.drive.close(2);
    Check.due("others leave it", 20, check.drive.look(4));
    check.drive.write(2, 20);
    Check.due("sent", 0, check.drive.look(4));
  }

  private static void lookAtId() {
    Check check = new Check();
    Check.due("none", NONE, check.drive.look(5));
    Check.due("none", NONE, check.drive.look(6));
    check.command("N:A," + Check.text(0, 255));
    Check.due("first", 0, check.drive.look(5));
    Check.due("second", 255, check.drive.look(6));
    check.command("UI");
    Check.due("none", NONE, check.drive.look(5));
    check.command("I");
    Check.due("first", 0, check.drive.look(5));
    Check.due("second", 255, check.drive.look(6));
  }

  private static void lookAtChannels() {
    Check check = Check.formatted();
    Check.due("none", 0, check.drive.look(7));
    check.open(0, "#");
    Check.due("a BUFFER", 1, check.drive.look(7));
    check.open(7, "A,W");
    Check.due("one that writes", 2, check.drive.look(7));
    check.open(14, "$");
    Check.due("one that lists", 3, check.drive.look(7));
    check.drive.close(7);
    Check.due("closed", 2, check.drive.look(7));
    check.open(13, "A");
    Check.due("one that reads", 3, check.drive.look(7));
    check.command("I");
    Check.due("15 is none", 3, check.drive.look(7));
  }

  private static void lookAtProgram() {
    Check check = new Check();
    for (int what = 8; what <= 14; what++) {
      Check.due("ahead of any", 0, check.drive.look(what));
    }
    check.command("M-W" + Check.text(0, 2, 11, 0xA2, 0x77, 0x9A, 0xA9, 0x81, 0xA2, 0x82, 0xA0, 0x83, 0x38, 0));
    check.command("M-E" + Check.text(0, 2));
    int[] want = {0x81, 0x82, 0x83, 0x77, 0xA5, 0x20A, 2 + 2 + 2 + 2 + 2 + 2 + 7};
    for (int what = 8; what <= 14; what++) {
      Check.due("look(" + what + ")", want[what - 8], check.drive.look(what));
    }
    check.command("M-W" + Check.text(0, 3, 2, 0xEA, 2));
    check.command("M-E" + Check.text(0, 3));
    Check.due("a code that there is not", 0x301, check.drive.look(13));
    Check.due("cycles", 2, check.drive.look(14));
    Check.due("A", 0, check.drive.look(8));
    check.command("M-W" + Check.text(0, 4, 5, 0xEA, 0xEA, 0x4C, 0, 4));
    check.command("M-E" + Check.text(0, 4));
    Check.due("by cycles the next one's", 0x402, check.drive.look(13));
    Check.due("cycles", 10000, check.drive.look(14));
    check.command("X");
    Check.due("the latest one's", 10000, check.drive.look(14));
  }

  private static void lookAtOthers() {
    for (int what : new int[] {-1, -2, 15, 16, 255, Integer.MIN_VALUE, Integer.MAX_VALUE}) {
      Check.due("look(" + what + ")", NONE, new Drive().look(what));
    }
  }

  // ---- rings, protection, power, memory ----

  private static void bitsOfRings() {
    for (int track = 1; track <= 12; track++) {
      Drive drive = new Drive();
      int size = 8 * Bits.lengthOf(track);
      drive.turn(track, 0, 0x12345678);
      drive.turn(track, size - 32, 0x9ABCDEF1);
      Check.due("at 0", 0x12345678, drive.bits(track, 0));
      Check.due("at the end", 0x9ABCDEF1, drive.bits(track, size - 32));
      for (int back = 1; back < 32; back++) {
        Check.due("round", 0x9ABCDEF1 << 32 - back | 0x12345678 >>> back, drive.bits(track, size - back));
      }
      Check.due("one on", 0x12345678 << 1, drive.bits(track, 1));
      for (int at : new int[] {-1, size, size + 1, Integer.MIN_VALUE, Integer.MAX_VALUE}) {
        Check.due("no such bit", 0, drive.bits(track, at));
      }
    }
    Check check = Check.formatted();
    for (int track : new int[] {0, 13, -1, Integer.MIN_VALUE, Integer.MAX_VALUE}) {
      Check.due("no such track", 0, check.drive.bits(track, 0));
    }
    Check.due("there is track 1", -1, check.drive.bits(1, 0));
    Check.due("there is track 12", -1, check.drive.bits(12, 0));
  }

  private static void turning() {
    for (int track = 1; track <= 12; track++) {
      Drive drive = new Drive();
      int size = 8 * Bits.lengthOf(track);
      Check.due("turn", true, drive.turn(track, 100, 0xF000000F));
      Check.due("they are", 0xF000000F, drive.bits(track, 100));
      Check.due("again", true, drive.turn(track, 100, 0xFF000000));
      Check.due("others stay", 0x0F00000F, drive.bits(track, 100));
      Check.due("no 1 in it", true, drive.turn(track, 100, 0));
      Check.due("as it was", 0x0F00000F, drive.bits(track, 100));
      for (int back = 1; back < 32; back += 5) {
        Check.due("round", true, drive.turn(track, size - back, -1));
        Check.due("round", -1, drive.bits(track, size - back));
        Check.due("ahead of it", 0, drive.bits(track, size - back - 32));
        Check.due("at bit 0", -1 << back, drive.bits(track, 0));
        Check.due("back", true, drive.turn(track, size - back, -1));
        Check.due("back", 0, drive.bits(track, 0));
      }
      for (int at : new int[] {-1, size, size + 1, Integer.MIN_VALUE, Integer.MAX_VALUE}) {
        Check.due("no such bit", false, drive.turn(track, at, -1));
      }
      Check.due("so nothing is turned", 0, drive.bits(track, 0));
      Check.due("so nothing is turned", 0, drive.bits(track, size - 1));
    }
    for (int track : new int[] {0, 13, -1, Integer.MIN_VALUE, Integer.MAX_VALUE}) {
      Check.due("no such track", false, new Drive().turn(track, 0, -1));
    }
    Check check = Check.formatted();
    check.drive.protect(true);
    Check.due("a protected disk, too", true, check.drive.turn(1, 0, -1));
    Check.due("a protected disk, too", 0, check.drive.bits(1, 0));
  }

  private static void protecting() {
    Check check = Check.formatted();
    check.open(2, "#");
    check.drive.protect(true);
    Check.due("protected", "26 1 0", check.after("U2:2,1,0"));
    check.drive.protect(true);
    Check.due("still", "26 1 0", check.after("U2:2,1,0"));
    Check.due("reading is free", "0 0 0", check.after("U1:2,1,0"));
    check.drive.protect(false);
    Check.due("not protected", "0 0 0", check.after("U2:2,1,0"));
    Check.due("protect() leaves the rest", 1, check.drive.look(7));
  }

  private static void power() {
    Check check = Check.formatted();
    check.open(0, "A,S,W");
    check.open(14, "#");
    check.command("M-W" + Check.text(16, 0, 3, 0xA9, 7, 0));
    check.command("M-W" + Check.text(255, 7, 1, 9));
    check.command("M-E" + Check.text(16, 0));
    check.drive.read(15, 300);
    check.command("M-R" + Check.text(16, 0, 3));
    check.drive.protect(true);
    check.drive.feed(0x58000000, 0, 0, 0, 0);
    check.drive.power();
    looksLike(check.drive, "behind power()", 73, 0, 0, 0, 20, NONE, NONE, 0, 0, 0, 0, 0, 0, 0, 0);
    Check.due("OUT", NONE, check.drive.out(0));
    Check.due("memory", 0, check.drive.memory(16));
    Check.due("memory", 0, check.drive.memory(2047));
    Check.due("the bytes of M-R are lost", "73,RING DOS 1,00,00\r", check.read(15, 300));
    Check.due("the TAPE stays", 31, check.drive.open(15, 1));
    Check.due("the rings stay", "0 \"A\" S*\r71 FREE\r", check.entries());
    check.open(2, "#");
    Check.due("PROTECTED stays", "26 1 0", check.after("U2:2,1,0"));
    check.drive.protect(false);
    check.drive.power();
    check.open(2, "#");
    Check.due("not protected stays", "0 0 0", check.after("U2:2,1,0"));
    check.command("B-A:66,77");
    Check.due("part of a STATUS", "66", check.read(15, 2));
    check.drive.power();
    Check.due("another one", "73,", check.read(15, 3));
  }

  private static void memories() {
    Check check = new Check();
    check.command("M-W" + Check.text(255, 7, 3, 11, 12, 255));
    Check.due("memory(2047)", 11, check.drive.memory(2047));
    Check.due("memory(0)", 12, check.drive.memory(0));
    Check.due("memory(1)", 255, check.drive.memory(1));
    Check.due("memory(2)", 0, check.drive.memory(2));
    for (int at : new int[] {-1, 2048, 2049, Integer.MIN_VALUE, Integer.MAX_VALUE}) {
      Check.due("memory(" + at + ")", NONE, check.drive.memory(at));
    }
  }
}
