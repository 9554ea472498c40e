import java.util.Arrays;

/**
 * A disk drive with a serial bus and its host. The host's side is this class; the classes inside are,
 * from the disk up: rings, jobs, the map, the directory, channels, commands and the second processor.
 */
public final class RingDrive {
  public static final int NONE = -1;

  private static final int COMMAND_CHANNEL = 15;
  private static final int TEXT_MOST = 40;
  private static final int READ_MOST = 300;

  private final Tape tape;
  private final Status status;
  private final Disk disk;
  private final Processor processor;
  private final Dos dos;
  private final Commands commands;
  private final int[] outRow;
  private int outCount;
  private boolean outEnded;

  public RingDrive() {
    tape = new Tape();
    status = new Status();
    disk = new Disk(status);
    processor = new Processor();
    dos = new Dos(status, disk, tape);
    commands = new Commands(dos, processor);
    outRow = new int[READ_MOST];
    outCount = 0;
    outEnded = false;
  }

  public int feed(int a, int b, int c, int d, int e) {
    if (tape.count + 20 > Tape.MOST) {
      return NONE;
    }
    tape.add(a);
    tape.add(b);
    tape.add(c);
    tape.add(d);
    tape.add(e);
    return tape.count;
  }

  public int open(int c, int n) {
    if (!sendText(c, n)) {
      return NONE;
    }
    if (c == COMMAND_CHANNEL) {
      commands.run();
      return status.number;
    }
    status.begin();
    if (n > TEXT_MOST) {
      return status.set(32, 0, 0);
    }
    dos.openChannel(c);
    return status.number;
  }

  public int write(int c, int n) {
    if (!sendText(c, n)) {
      return NONE;
    }
    if (c == COMMAND_CHANNEL) {
      commands.run();
      return status.number;
    }
    if (n > 0) {
      status.begin();
      dos.sendBytes(c);
    }
    return status.number;
  }

  public int close(int c) {
    if (!isChannel(c)) {
      return NONE;
    }
    status.begin();
    if (c == COMMAND_CHANNEL) {
      dos.closeAll();
    } else {
      dos.closeChannel(c);
    }
    return status.number;
  }

  public int read(int c, int n) {
    if (!isChannel(c) || n < 1 || n > READ_MOST) {
      return NONE;
    }
    if (c == COMMAND_CHANNEL) {
      outCount = status.receive(n, outRow);
      outEnded = status.ended;
      return outCount;
    }
    status.begin();
    outCount = dos.receive(c, n, outRow);
    outEnded = dos.ended;
    return outCount;
  }

  public int out(int i) {
    return i >= 0 && i < outCount && i < outRow.length ? outRow[i] : NONE;
  }

  public int look(int what) {
    switch (what) {
      case 0: return status.number;
      case 1: return status.track;
      case 2: return status.sector;
      case 3: return outEnded ? 1 : 0;
      case 4: return tape.count;
      case 5: return disk.idFirst;
      case 6: return disk.idSecond;
      case 7: return dos.countOpen();
      case 8: return processor.a;
      case 9: return processor.x;
      case 10: return processor.y;
      case 11: return processor.s;
      case 12: return processor.p;
      case 13: return processor.pc;
      case 14: return processor.cycles;
      default: return NONE;
    }
  }

  public int bits(int track, int at) {
    Ring ring = disk.ring(track);
    return ring != null && ring.hasBit(at) ? ring.word(at) : 0;
  }

  public boolean turn(int track, int at, int mask) {
    Ring ring = disk.ring(track);
    if (ring == null || !ring.hasBit(at)) {
      return false;
    }
    ring.flip(at, mask);
    return true;
  }

  public void protect(boolean is) {
    disk.guarded = is;
  }

  public void power() {
    dos.dropAll();
    disk.dropId();
    processor.reset();
    status.begin();
    status.set(73, 0, 0);
    outCount = 0;
    outEnded = false;
  }

  public int memory(int at) {
    return at >= 0 && at < Processor.SIZE ? processor.get(at) : NONE;
  }

  private static boolean isChannel(int c) {
    return c >= 0 && c <= COMMAND_CHANNEL;
  }

  /** The tape's first n bytes become the TEXT; false, and nothing changes, where that is refused. */
  private boolean sendText(int c, int n) {
    if (!isChannel(c) || !tape.has(n)) {
      return false;
    }
    tape.send(n);
    return true;
  }

  /** What the host feeds, and the TEXT that it has sent of it. */
  private static final class Tape {
    static final int MOST = 400;

    private final int[] row = new int[MOST];
    int count;
    int length;
    /** How far the TEXT's NUMBERS have been taken; NONE if it has no colon. */
    private int taken;

    boolean has(int n) {
      return n >= 0 && n <= count;
    }

    void add(int four) {
      for (int shift = 24; shift >= 0 && count < MOST; shift -= 8) {
        row[count] = (four >> shift) & 255;
        count++;
      }
    }

    void send(int n) {
      length = n;
      count = 0;
    }

    int byteAt(int i) {
      return i >= 0 && i < length && i < MOST ? row[i] : NONE;
    }

    int find(int wanted, int from) {
      for (int i = Math.max(0, from); i < length && i < MOST; i++) {
        if (row[i] == wanted) {
          return i;
        }
      }
      return NONE;
    }

    void startNumbers() {
      taken = find(':', 0);
    }

    /** The next of the TEXT's NUMBERS, or NONE where that is a fault. */
    int nextNumber() {
      if (taken < 0) {
        return NONE;
      }
      int from = taken;
      while (from < length && !isDigit(byteAt(from))) {
        from++;
      }
      int value = 0;
      int end = from;
      while (end < length && end < from + 4 && isDigit(byteAt(end))) {
        value = 10 * value + byteAt(end) - '0';
        end++;
      }
      taken = end;
      return end == from || end > from + 3 || value > 255 ? NONE : value;
    }

    private static boolean isDigit(int value) {
      return value >= '0' && value <= '9';
    }
  }

  /** Channel 15: the STATUS, and ahead of it what M-R has brought. */
  private static final class Status {
    private static final int REPLY_MOST = 32;

    int number = 73;
    int track;
    int sector;
    /** Whether the latest receive() came to the END. */
    boolean ended;
    private final int[] text = new int[TEXT_MOST];
    private int length;
    private int place;
    private final int[] reply = new int[REPLY_MOST];
    private int replyLength;
    private int replyPlace;

    /** Something comes to be done, so the STATUS is clean and an M-R's bytes are lost. */
    void begin() {
      set(0, 0, 0);
      replyLength = 0;
      replyPlace = 0;
    }

    int set(int number, int track, int sector) {
      this.number = number;
      this.track = track;
      this.sector = sector;
      length = 0;
      place = 0;
      return number;
    }

    void addReply(int value) {
      if (replyLength < REPLY_MOST) {
        reply[replyLength] = value;
        replyLength++;
      }
    }

    int receive(int n, int[] to) {
      int count = 0;
      ended = false;
      while (count < n && count < to.length && !ended) {
        to[count] = replyPlace < replyLength ? replyByte() : textByte();
        count++;
      }
      return count;
    }

    private int replyByte() {
      int value = replyPlace < REPLY_MOST ? reply[replyPlace] : 0;
      replyPlace++;
      ended = replyPlace >= replyLength;
      return value;
    }

    private int textByte() {
      if (length == 0) {
        spell();
      }
      int value = place < text.length ? text[place] : 13;
      place++;
      if (place >= length) {
        ended = true;
        set(0, 0, 0);
      }
      return value;
    }

    private void spell() {
      addTwoDigits(number);
      add(',');
      String words = words();
      for (int i = 0; i < words.length(); i++) {
        add(words.charAt(i));
      }
      add(',');
      addTwoDigits(track);
      add(',');
      addTwoDigits(sector);
      add(13);
    }

    private void addTwoDigits(int value) {
      add('0' + value / 10 % 10);
      add('0' + value % 10);
    }

    private void add(int value) {
      if (length < text.length) {
        text[length] = value;
        length++;
      }
    }

    private String words() {
      switch (number) {
        case 0: return "OK";
        case 1: return "FILES SCRATCHED";
        case 25: return "WRITE ERROR";
        case 26: return "WRITE PROTECT ON";
        case 28: return "PROGRAM ERROR";
        case 60: return "FILE OPEN";
        case 61: return "FILE NOT OPEN";
        case 62: return "FILE NOT FOUND";
        case 63: return "FILE EXISTS";
        case 64: return "FILE TYPE MISMATCH";
        case 65: return "NO BLOCK";
        case 66: return "ILLEGAL BLOCK";
        case 70: return "NO CHANNEL";
        case 71: return "DIR ERROR";
        case 72: return "DISK FULL";
        case 73: return "RING DOS 1";
        case 74: return "DRIVE NOT READY";
        default: return number < 30 ? "READ ERROR" : "SYNTAX ERROR";
      }
    }
  }

  /** A track's ring of bits, eight to a cell, and one who goes along it. */
  private static final class Ring {
    private static final int MARK = 10;

    final int sectors;
    final int size;
    private final int[] cells;
    /** Where the one who goes along is, and how many 1s lie right ahead of that. */
    private int at;
    private int ones;
    /** Whether the byte that came last is FIRST. */
    boolean first;
    /** How far the ROUND has been looked through, and the 1s right ahead of that. */
    private int roundCell;
    private int roundOnes;

    Ring(int length, int sectors) {
      this.cells = new int[Math.max(1, length)];
      this.size = 8 * cells.length;
      this.sectors = sectors;
    }

    boolean hasBit(int place) {
      return place >= 0 && place < size;
    }

    int word(int place) {
      int word = 0;
      for (int i = 0; i < 32; i += 8) {
        word = (word << 8) | eight(place + i);
      }
      return word;
    }

    void flip(int place, int mask) {
      for (int i = 0; i < 32; i += 8) {
        put(place + i, eight(place + i) ^ ((mask >> (24 - i)) & 255));
      }
    }

    /** The eight bits from a place on, which may lie a little behind the ring's end. */
    private int eight(int place) {
      int turned = place >= size ? place - size : place;
      int cell = turned >> 3;
      if (cell < 0 || cell >= cells.length) {
        return 0;
      }
      int next = cell + 1 < cells.length ? cell + 1 : 0;
      return (((cells[cell] << 8) | cells[next]) >> (8 - (turned & 7))) & 255;
    }

    void put(int place, int value) {
      int turned = place >= size ? place - size : place;
      int cell = turned >> 3;
      if (cell < 0 || cell >= cells.length) {
        return;
      }
      int next = cell + 1 < cells.length ? cell + 1 : 0;
      int shift = 8 - (turned & 7);
      int pair = (((cells[cell] << 8) | cells[next]) & ~(255 << shift)) | (value << shift);
      cells[cell] = (pair >> 8) & 255;
      cells[next] = pair & 255;
    }

    /** Writes a run of bytes from where the one who goes along is, forty 1s ahead of them. */
    void putMarked(int[] bytes) {
      int place = at;
      for (int i = 0; i < 5 + bytes.length; i++) {
        put(place, i < 5 ? 255 : bytes[i - 5]);
        place = place + 8 < size ? place + 8 : place + 8 - size;
      }
      at = place;
    }

    void putGap(int count) {
      for (int i = 0; i < count; i++) {
        put(at, 85);
        at = at + 8 < size ? at + 8 : at + 8 - size;
      }
    }

    void putGapToEnd() {
      putGap(Math.max(0, cells.length - (at >> 3)));
    }

    /** The 1s that lie right ahead of a place; where they are a MARK, no more are counted. */
    int onesAhead(int place) {
      int count = 0;
      int back = place;
      boolean isOne = true;
      while (count < MARK && isOne) {
        back = back > 0 ? back - 1 : size - 1;
        isOne = back < size && ((cells[back >> 3] >> (7 - (back & 7))) & 1) == 1;
        count += isOne ? 1 : 0;
      }
      return count;
    }

    void goTo(int place, int onesAhead) {
      at = place >= 0 && place < size ? place : 0;
      ones = onesAhead;
    }

    void startRound(int onesAhead) {
      roundCell = 0;
      roundOnes = onesAhead;
    }

    /**
     * The place of the ROUND's next FIRST byte, or NONE. A cell has at most one, as its 0 has 1s of an
     * earlier cell in the MARK ahead of it: three at least.
     */
    int nextFirst() {
      int place = NONE;
      while (roundCell < cells.length && place == NONE) {
        int cell = cells[roundCell];
        int leading = 0;
        int trailing = 0;
        while (leading < 8 && roundOnes >= 3 && ((cell >> (7 - leading)) & 1) == 1) {
          leading++;
        }
        while (trailing < 8 && ((cell >> trailing) & 1) == 1) {
          trailing++;
        }
        if (trailing == 8) {
          roundOnes = roundOnes + 8 < MARK ? roundOnes + 8 : MARK;
        } else {
          place = roundOnes + leading >= MARK ? 8 * roundCell + leading : NONE;
          roundOnes = trailing;
        }
        roundCell++;
      }
      return place;
    }

    boolean holds(int place, int[] bytes) {
      int cell = place >> 3;
      int shift = 8 - (place & 7);
      for (int i = 0; i < bytes.length; i++) {
        int next = cell + 1 < cells.length ? cell + 1 : 0;
        if (cell < 0 || cell >= cells.length
            || ((((cells[cell] << 8) | cells[next]) >> shift) & 255) != bytes[i]) {
          return false;
        }
        cell = next;
      }
      return true;
    }

    /** The next byte that comes. (Nobody goes along a ring that has no FIRST byte.) */
    int next() {
      int value = 0;
      int many = 0;
      first = false;
      for (int i = 0; i <= size + 8 && many < 8; i++) {
        int bit = (cells[at >> 3] >> (7 - (at & 7))) & 1;
        at = at + 1 < size ? at + 1 : 0;
        if (bit == 0 && ones >= MARK) {
          first = true;
        }
        ones = bit == 0 ? 0 : ones < MARK ? ones + 1 : MARK;
        value = (value << 1) | bit;
        many = ones >= MARK ? 0 : many + 1;
      }
      return value & 255;
    }

    void skip(int count) {
      for (int i = 0; i < count; i++) {
        next();
      }
    }

    /** The bytes that come next, from the next FIRST one on. */
    void gatherFromFirst(int[] to) {
      int value = next();
      for (int i = 0; i < cells.length && !first; i++) {
        value = next();
      }
      for (int i = 0; i < to.length; i++) {
        to[i] = i == 0 ? value : next();
      }
    }
  }

  /** The disk and its JOBS. A JOB answers 0 or the number of its fault, which it has told the STATUS. */
  private static final class Disk {
    static final int TRACKS = 12;
    static final int BLOCK = 64;
    static final int MAP_TRACK = 7;

    private static final int[] LENGTHS = {1000, 1000, 1000, 880, 880, 880, 760, 760, 760, 640, 640, 640};
    private static final int[] SECTORS = {8, 8, 8, 7, 7, 7, 6, 6, 6, 5, 5, 5};
    private static final int[] GROUPS = {10, 11, 18, 19, 14, 15, 22, 23, 9, 25, 26, 27, 13, 29, 30, 21};
    private static final int[] VALUES = {
      -1, -1, -1, -1, -1, -1, -1, -1, -1, 8, 0, 1, -1, 12, 4, 5,
      -1, -1, 2, 3, -1, 15, 6, 7, -1, 9, 10, 11, -1, 13, 14, -1};
    private static final int ID_TRIES = 32;

    boolean guarded;
    int idFirst = NONE;
    int idSecond = NONE;
    private final Status status;
    private final Ring[] rings = new Ring[TRACKS];
    private final int[] header = new int[8];
    private final int[] codedHeader = new int[10];
    private final int[] data = new int[BLOCK + 4];
    private final int[] codedData = new int[85];
    private final int[] came = new int[85];

    Disk(Status status) {
      this.status = status;
      for (int i = 0; i < TRACKS; i++) {
        rings[i] = new Ring(LENGTHS[i], SECTORS[i]);
      }
    }

    Ring ring(int track) {
      return track >= 1 && track <= TRACKS ? rings[track - 1] : null;
    }

    static int sectorsOf(int track) {
      return track >= 1 && track <= TRACKS ? SECTORS[track - 1] : 0;
    }

    static boolean isLegal(int track, int sector) {
      return track >= 1 && track <= TRACKS && sector >= 0 && sector < SECTORS[track - 1];
    }

    boolean hasId() {
      return idFirst != NONE;
    }

    void dropId() {
      idFirst = NONE;
      idSecond = NONE;
    }

    void setId(int first, int second) {
      idFirst = first;
      idSecond = second;
    }

    int takeId() {
      dropId();
      Ring ring = rings[MAP_TRACK - 1];
      ring.startRound(ring.onesAhead(0));
      int place = ring.nextFirst();
      for (int i = 0; i < ID_TRIES && place != NONE && !hasId(); i++) {
        ring.goTo(place, ring.onesAhead(place));
        for (int j = 0; j < codedHeader.length; j++) {
          codedHeader[j] = ring.next();
        }
        if (decode(codedHeader, header) && isHeader()) {
          setId(header[5], header[4]);
        }
        place = ring.nextFirst();
      }
      return hasId() ? 0 : status.set(74, MAP_TRACK, 0);
    }

    private boolean isHeader() {
      return header[0] == 8 && header[1] == (header[2] ^ header[3] ^ header[4] ^ header[5]);
    }

    /** READ; where it has a fault the row stays as it was. */
    int readBlock(int track, int sector, int[] to) {
      Ring ring = ring(track);
      if (ring == null || to.length < BLOCK) {
        return status.set(66, track, sector);
      }
      if (!hasId() && takeId() != 0) {
        return status.number;
      }
      int fault = seek(ring, track, sector);
      if (fault == 0) {
        ring.gatherFromFirst(came);
        fault = dataFault();
      }
      if (fault != 0) {
        return status.set(fault, track, sector);
      }
      System.arraycopy(data, 1, to, 0, BLOCK);
      return 0;
    }

    /** WRITE. */
    int writeBlock(int track, int sector, int[] from) {
      Ring ring = ring(track);
      if (ring == null || from.length < BLOCK) {
        return status.set(66, track, sector);
      }
      if (guarded) {
        return status.set(26, track, sector);
      }
      if (!hasId() && takeId() != 0) {
        return status.number;
      }
      int fault = seek(ring, track, sector);
      if (fault != 0) {
        return status.set(fault, track, sector);
      }
      codeData(from);
      ring.skip(9);
      ring.putMarked(codedData);
      boolean good = seek(ring, track, sector) == 0;
      if (good) {
        ring.gatherFromFirst(came);
        good = areSame(came, codedData);
      }
      return good ? 0 : status.set(25, track, sector);
    }

    int format(int track, int first, int second) {
      Ring ring = ring(track);
      if (ring == null || guarded) {
        return status.set(26, track, 0);
      }
      ring.goTo(0, 0);
      codeData(null);
      for (int sector = 0; sector < ring.sectors; sector++) {
        fillHeader(track, sector, first, second);
        encode(header, codedHeader);
        ring.putMarked(codedHeader);
        ring.putGap(9);
        ring.putMarked(codedData);
        ring.putGap(8);
      }
      ring.putGapToEnd();
      return 0;
    }

    /** SEEK: 0, and the ring is gone along up to behind the HEADER; or the fault's number. */
    private int seek(Ring ring, int track, int sector) {
      fillHeader(track, sector, idFirst, idSecond);
      encode(header, codedHeader);
      ring.startRound(ring.onesAhead(0));
      int place = ring.nextFirst();
      if (place == NONE) {
        return 21;
      }
      for (int i = 0; i < ring.size && place != NONE; i++) {
        if (ring.holds(place, codedHeader)) {
          int behind = (place + 8 * codedHeader.length) % ring.size;
          ring.goTo(behind, ring.onesAhead(behind));
          return 0;
        }
        place = ring.nextFirst();
      }
      return 20;
    }

    /** What is wrong with the DATA that came: 22 is told ahead of 24, 24 ahead of 23. */
    private int dataFault() {
      if (came[0] != 85 || came[1] >> 6 != 3) {
        return 22;
      }
      if (!decode(came, data)) {
        return 24;
      }
      int sum = 0;
      for (int i = 1; i <= BLOCK; i++) {
        sum ^= data[i];
      }
      return sum == data[BLOCK + 1] ? 0 : 23;
    }

    private void fillHeader(int track, int sector, int first, int second) {
      header[0] = 8;
      header[1] = sector ^ track ^ first ^ second;
      header[2] = sector;
      header[3] = track;
      header[4] = second;
      header[5] = first;
      header[6] = 15;
      header[7] = 15;
    }

    /** The DATA of a block; of 64 zeros if there is none. */
    private void codeData(int[] block) {
      int sum = 0;
      data[0] = 7;
      for (int i = 0; i < BLOCK; i++) {
        data[i + 1] = block != null && i < block.length ? block[i] : 0;
        sum ^= data[i + 1];
      }
      data[BLOCK + 1] = sum;
      data[BLOCK + 2] = 0;
      data[BLOCK + 3] = 0;
      encode(data, codedData);
    }

    private static void encode(int[] plain, int[] coded) {
      int held = 0;
      int many = 0;
      int to = 0;
      for (int i = 0; i < 2 * plain.length; i++) {
        int four = (plain[i >> 1] >> ((i & 1) == 0 ? 4 : 0)) & 15;
        held = ((held << 5) | GROUPS[four]) & 4095;
        many += 5;
        if (many >= 8 && to < coded.length) {
          many -= 8;
          coded[to] = (held >> many) & 255;
          to++;
        }
      }
    }

    private static boolean decode(int[] coded, int[] plain) {
      int held = 0;
      int many = 0;
      int from = 0;
      for (int i = 0; i < 2 * plain.length; i++) {
        if (many < 5 && from < coded.length) {
          held = ((held << 8) & 4095) | coded[from];
          many += 8;
          from++;
        }
        many -= 5;
        int four = many >= 0 ? VALUES[(held >> many) & 31] : NONE;
        if (four < 0) {
          return false;
        }
        plain[i >> 1] = (i & 1) == 0 ? four << 4 : plain[i >> 1] | four;
      }
      return true;
    }

    private static boolean areSame(int[] one, int[] other) {
      for (int i = 0; i < one.length; i++) {
        if (i >= other.length || one[i] != other[i]) {
          return false;
        }
      }
      return true;
    }
  }

  /** A NAME or a PATTERN of one. */
  private static final class Pattern {
    static final int MOST = 10;
    static final int FILLER = 160;

    private final int[] row = new int[MOST];
    private int length;

    /** Takes bytes of the TEXT; false, and nothing is taken, if they are more than ten. */
    boolean take(Tape tape, int from, int to) {
      if (to - from > MOST) {
        return false;
      }
      length = Math.max(0, to - from);
      for (int i = 0; i < length; i++) {
        row[i] = tape.byteAt(from + i);
      }
      return true;
    }

    boolean isEmpty() {
      return length == 0;
    }

    void fitAll() {
      row[0] = '*';
      length = 1;
    }

    void copyFrom(Pattern other) {
      System.arraycopy(other.row, 0, row, 0, MOST);
      length = other.length;
    }

    boolean isWild() {
      for (int i = 0; i < length && i < MOST; i++) {
        if (row[i] == '*' || row[i] == '?') {
          return true;
        }
      }
      return false;
    }

    boolean fits(int[] block, int at) {
      if (at < 0 || at > block.length - MOST) {
        return false;
      }
      for (int i = 0; i < length && i < MOST; i++) {
        int name = block[at + i];
        if (row[i] == '*') {
          return true;
        }
        if (row[i] == '?' ? name == FILLER : name != row[i]) {
          return false;
        }
      }
      return length >= MOST || block[at + length] == FILLER;
    }

    /** Whether the ten bytes there are this NAME. To FIT isn't enough, as a NAME may have bytes behind a 160. */
    boolean isSame(int[] block, int at) {
      if (at < 0 || at > block.length - MOST) {
        return false;
      }
      for (int i = 0; i < MOST; i++) {
        if (block[at + i] != padded(i)) {
          return false;
        }
      }
      return true;
    }

    void putInto(int[] block, int at) {
      for (int i = 0; i < MOST && at >= 0 && at + i < block.length; i++) {
        block[at + i] = padded(i);
      }
    }

    private int padded(int i) {
      return i >= 0 && i < length && i < MOST ? row[i] : FILLER;
    }
  }

  /** THE MAP, while something is done with it. */
  private static final class BlockMap {
    static final int NAME_AT = 28;
    static final int ID_AT = 38;

    private static final int[] ORDER = {6, 8, 5, 9, 4, 10, 3, 11, 2, 12, 1};

    final int[] row = new int[Disk.BLOCK];
    /** The block that was picked last. */
    int track;
    int sector;
    private final Disk disk;

    BlockMap(Disk disk) {
      this.disk = disk;
    }

    int load() {
      return disk.readBlock(Disk.MAP_TRACK, 0, row);
    }

    int store() {
      return disk.writeBlock(Disk.MAP_TRACK, 0, row);
    }

    void begin(Pattern name) {
      Arrays.fill(row, 0);
      row[0] = Disk.MAP_TRACK;
      row[1] = 1;
      row[2] = 68;
      freeAll();
      takeBlock(Disk.MAP_TRACK, 0);
      takeBlock(Disk.MAP_TRACK, 1);
      name.putInto(row, NAME_AT);
      row[ID_AT] = disk.idFirst;
      row[ID_AT + 1] = disk.idSecond;
    }

    void freeAll() {
      for (int t = 1; t <= Disk.TRACKS; t++) {
        row[2 + 2 * t] = Disk.sectorsOf(t);
        row[3 + 2 * t] = (1 << Disk.sectorsOf(t)) - 1;
      }
    }

    int freeSum() {
      int sum = 0;
      for (int i = 0; i < ORDER.length; i++) {
        sum += row[2 + 2 * ORDER[i]];
      }
      return sum;
    }

    boolean isFree(int t, int s) {
      return Disk.isLegal(t, s) && ((row[3 + 2 * t] >> s) & 1) == 1;
    }

    void takeBlock(int t, int s) {
      if (Disk.isLegal(t, s) && ((row[3 + 2 * t] >> s) & 1) == 1) {
        row[3 + 2 * t] &= ~(1 << s);
        row[2 + 2 * t] = (row[2 + 2 * t] - 1) & 255;
      }
    }

    void giveBack(int t, int s) {
      if (Disk.isLegal(t, s) && ((row[3 + 2 * t] >> s) & 1) == 0) {
        row[3 + 2 * t] |= 1 << s;
        row[2 + 2 * t] = (row[2 + 2 * t] + 1) & 255;
      }
    }

    /** Takes a block by the tracks' order; false if there is none. */
    boolean pick() {
      for (int i = 0; i < ORDER.length; i++) {
        if (pickOf(ORDER[i], 0)) {
          return true;
        }
      }
      return false;
    }

    boolean pickBehind(int t, int s) {
      return t != Disk.MAP_TRACK && pickOf(t, s + 3) || pick();
    }

    boolean pickForDirectory() {
      return pickOf(Disk.MAP_TRACK, 0);
    }

    private boolean pickOf(int t, int from) {
      int sectors = Disk.sectorsOf(t);
      if (sectors == 0 || row[2 + 2 * t] == 0) {
        return false;
      }
      for (int i = 0; i < sectors; i++) {
        int s = (from + i) % sectors;
        if (isFree(t, s)) {
          takeBlock(t, s);
          track = t;
          sector = s;
          return true;
        }
      }
      return false;
    }
  }

  /** THE DIRECTORY, gone through ENTRY by ENTRY. */
  private static final class Directory {
    static final int CLOSED = 128;
    /** What is looked for: an ENTRY whose NAME a PATTERN FITS, one that has a NAME, one without TYPE. */
    static final int FITTING = 0;
    static final int NAMED = 1;
    static final int EMPTY = 2;

    private static final int BLOCKS_MOST = 6;
    private static final int ENTRIES = 4;
    private static final int TYPE_AT = 2;
    private static final int FIRST_AT = 3;
    private static final int NAME_AT = 5;
    private static final int COUNT_AT = 15;

    final int[] row = new int[Disk.BLOCK];
    /** Where one is: a block, the how manieth of the chain it is, an ENTRY of it (below 0: ahead of all). */
    int track;
    int sector;
    int blocks;
    int entry;
    boolean found;
    private boolean held;
    private final Disk disk;
    private final Status status;

    Directory(Disk disk, Status status) {
      this.disk = disk;
      this.status = status;
    }

    void rewind() {
      goTo(Disk.MAP_TRACK, 1, 1, -1);
    }

    void goTo(int track, int sector, int blocks, int entry) {
      this.track = track;
      this.sector = sector;
      this.blocks = blocks;
      this.entry = entry;
      held = false;
    }

    /** Goes on to the next ENTRY that is looked for. */
    int find(int what, Pattern pattern) {
      found = false;
      for (int i = 0; i < BLOCKS_MOST * (ENTRIES + 1); i++) {
        int fault = held ? 0 : disk.readBlock(track, sector, row);
        if (fault != 0) {
          return fault;
        }
        held = true;
        entry++;
        if (entry < ENTRIES) {
          if (isWanted(what, pattern)) {
            found = true;
            return 0;
          }
        } else if (isLast()) {
          return 0;
        } else if (!Disk.isLegal(row[0], row[1])) {
          return status.set(71, row[0], row[1]);
        } else {
          goTo(row[0], row[1], blocks + 1, -1);
        }
      }
      return 0;
    }

    boolean isLast() {
      return row[0] == 0 || isFull();
    }

    boolean isFull() {
      return blocks >= BLOCKS_MOST;
    }

    private boolean isWanted(int what, Pattern pattern) {
      int at = base() + NAME_AT;
      switch (what) {
        case EMPTY: return type() == 0;
        case NAMED: return type() != 0 && pattern.isSame(row, at);
        default: return type() != 0 && pattern.fits(row, at);
      }
    }

    private int base() {
      return entry >= 0 && entry < ENTRIES ? 16 * entry : 0;
    }

    int type() {
      return row[base() + TYPE_AT];
    }

    boolean isClosed() {
      return type() >= CLOSED;
    }

    int firstTrack() {
      return row[base() + FIRST_AT];
    }

    int firstSector() {
      return row[base() + FIRST_AT + 1];
    }

    int nameByte(int i) {
      return i >= 0 && i < Pattern.MOST ? row[base() + NAME_AT + i] : Pattern.FILLER;
    }

    int count() {
      return row[base() + COUNT_AT];
    }

    int changeType(int type) {
      int fault = disk.readBlock(track, sector, row);
      if (fault != 0) {
        return fault;
      }
      row[base() + TYPE_AT] = type;
      return disk.writeBlock(track, sector, row);
    }

    int changeName(Pattern name) {
      int fault = disk.readBlock(track, sector, row);
      if (fault != 0) {
        return fault;
      }
      name.putInto(row, base() + NAME_AT);
      return disk.writeBlock(track, sector, row);
    }

    int changeToClosed(int count) {
      int fault = disk.readBlock(track, sector, row);
      if (fault != 0) {
        return fault;
      }
      row[base() + TYPE_AT] |= CLOSED;
      row[base() + COUNT_AT] = count & 255;
      return disk.writeBlock(track, sector, row);
    }

    int changeToNew(int type, BlockMap picked, Pattern name) {
      int fault = disk.readBlock(track, sector, row);
      if (fault != 0) {
        return fault;
      }
      row[base() + TYPE_AT] = type;
      row[base() + FIRST_AT] = picked.track;
      row[base() + FIRST_AT + 1] = picked.sector;
      name.putInto(row, base() + NAME_AT);
      row[base() + COUNT_AT] = 0;
      return disk.writeBlock(track, sector, row);
    }

    /** Writes an empty last block of a DIRECTORY. */
    int writeEmpty(int t, int s) {
      Arrays.fill(row, 0);
      row[1] = 255;
      held = false;
      return disk.writeBlock(t, s, row);
    }

    /** Makes a block the next one of that in which one is, and goes there, to its ENTRY 0. */
    int lengthen(int t, int s) {
      int fault = disk.readBlock(track, sector, row);
      if (fault == 0) {
        row[0] = t;
        row[1] = s;
        fault = disk.writeBlock(track, sector, row);
      }
      goTo(t, s, blocks + 1, 0);
      return fault;
    }
  }

  /** A channel of 0 to 14. */
  private static final class Channel {
    static final int SHUT = 0;
    static final int READS = 1;
    static final int WRITES = 2;
    static final int LISTS = 3;
    static final int BUFFER = 4;

    int mode = SHUT;
    /** The block in hand; of a LIST the line. */
    final int[] row = new int[Disk.BLOCK];
    /** Where the next byte is, and behind which ones no more are in the row. */
    int place;
    int end;
    /** Whether nothing comes behind what the row has. */
    boolean isLast;
    /** Of a FILE that WRITES: its latest block, its first one, how many. */
    int track;
    int sector;
    int firstTrack;
    int firstSector;
    int count;
    /** The ENTRY of a FILE that WRITES; of a LIST the one that was told last. */
    int entryTrack;
    int entrySector;
    int entryBlocks;
    int entry;
    /** Of a LIST. */
    final Pattern pattern = new Pattern();
    boolean titled;

    void begin(int mode) {
      this.mode = mode;
      Arrays.fill(row, 0);
      place = 0;
      end = 0;
      isLast = false;
      titled = false;
    }

    void beginBlock(int t, int s) {
      Arrays.fill(row, 0);
      place = 2;
      track = t;
      sector = s;
    }

    void keepEntry(Directory directory) {
      entryTrack = directory.track;
      entrySector = directory.sector;
      entryBlocks = directory.blocks;
      entry = directory.entry;
    }

    /** Sets out what a FILE's block, which has been read, has for the reader. */
    void unfold() {
      isLast = row[0] == 0;
      place = 2;
      end = isLast ? Math.min(63, row[1]) + 1 : Disk.BLOCK;
    }

    void startLine() {
      place = 0;
      end = 0;
    }

    void add(int value) {
      if (end < row.length) {
        row[end] = value;
        end++;
      }
    }

    void addNumber(int value) {
      int power = 1;
      for (int i = 0; i < 8 && value / power >= 10; i++) {
        power *= 10;
      }
      for (int i = 0; i < 9 && power > 0; i++) {
        add('0' + value / power % 10);
        power /= 10;
      }
    }
  }

  /** Files, lists and buffers by their channels. */
  private static final class Dos {
    static final int CHANNELS = 15;

    private static final int OPEN_MOST = 3;
    private static final int CHAIN_MOST = 72;

    final Status status;
    final Disk disk;
    final Tape tape;
    final BlockMap map;
    final Directory directory;
    /** A block of a chain that is gone along. */
    final int[] row = new int[Disk.BLOCK];
    /** Whether the latest receive() came to the END. */
    boolean ended;
    private final Channel[] channels = new Channel[CHANNELS];
    /** What an OPEN's TEXT told. */
    private final Pattern name = new Pattern();
    private boolean replaces;
    private int sort;
    private int way;

    Dos(Status status, Disk disk, Tape tape) {
      this.status = status;
      this.disk = disk;
      this.tape = tape;
      map = new BlockMap(disk);
      directory = new Directory(disk, status);
      for (int c = 0; c < CHANNELS; c++) {
        channels[c] = new Channel();
      }
    }

    /** The channel c if it is a BUFFER, else null. */
    Channel buffer(int c) {
      boolean is = c >= 0 && c < CHANNELS && channels[c].mode == Channel.BUFFER;
      return is ? channels[c] : null;
    }

    int countOpen() {
      int count = 0;
      for (int c = 0; c < CHANNELS; c++) {
        count += channels[c].mode == Channel.SHUT ? 0 : 1;
      }
      return count;
    }

    void dropAll() {
      for (int c = 0; c < CHANNELS; c++) {
        channels[c].mode = Channel.SHUT;
      }
    }

    void closeAll() {
      int fault = 0;
      for (int c = 0; c < CHANNELS && fault == 0; c++) {
        fault = closeChannel(c);
      }
      dropAll();
    }

    int closeChannel(int c) {
      if (c < 0 || c >= CHANNELS) {
        return 0;
      }
      Channel channel = channels[c];
      int fault = 0;
      if (channel.mode == Channel.WRITES) {
        channel.row[0] = 0;
        channel.row[1] = channel.place - 1;
        fault = disk.writeBlock(channel.track, channel.sector, channel.row);
        if (fault == 0) {
          goToEntryOf(channel);
          fault = directory.changeToClosed(channel.count);
        }
      }
      channel.mode = Channel.SHUT;
      return fault;
    }

    private void goToEntryOf(Channel channel) {
      directory.goTo(channel.entryTrack, channel.entrySector, channel.entryBlocks, channel.entry);
    }

    int openChannel(int c) {
      if (c < 0 || c >= CHANNELS) {
        return 0;
      }
      Channel channel = channels[c];
      int fault = closeChannel(c);
      if (fault != 0) {
        return fault;
      }
      if (countOpen() >= OPEN_MOST) {
        return status.set(70, 0, 0);
      }
      if (tape.byteAt(0) == '#') {
        return openBuffer(channel);
      }
      if (tape.byteAt(0) == '$') {
        return openList(channel);
      }
      fault = parseFile(c);
      if (fault != 0) {
        return status.set(fault, 0, 0);
      }
      return way == 'R' ? openToRead(channel) : openToWrite(channel);
    }

    private int openBuffer(Channel channel) {
      if (tape.length > 1) {
        return status.set(30, 0, 0);
      }
      channel.begin(Channel.BUFFER);
      return 0;
    }

    private int openList(Channel channel) {
      boolean told = tape.length > 1;
      if (told && tape.byteAt(1) != ':' || !name.take(tape, 2, tape.length)) {
        return status.set(30, 0, 0);
      }
      if (name.isEmpty()) {
        name.fitAll();
      }
      channel.begin(Channel.LISTS);
      channel.pattern.copyFrom(name);
      return 0;
    }

    /** Takes the TEXT of a FILE apart, and answers 0 or the fault's number. */
    private int parseFile(int c) {
      replaces = tape.byteAt(0) == '@';
      int from = replaces ? 1 : 0;
      from += tape.byteAt(from) == ':' ? 1 : 0;
      int comma = tape.find(',', from);
      int to = comma == NONE ? tape.length : comma;
      if (to == from) {
        return 34;
      }
      if (!name.take(tape, from, to)) {
        return 30;
      }
      sort = sortTold(to);
      to += sort == 0 ? 0 : 2;
      way = wayTold(to);
      to += way == 0 ? 0 : 2;
      if (to != tape.length) {
        return 30;
      }
      if (way == 0) {
        way = c == 1 ? 'W' : 'R';
      }
      if (sort == 0) {
        sort = c <= 1 ? 2 : way == 'W' ? 1 : 0;
      }
      if (way == 'R') {
        return replaces ? 30 : 0;
      }
      return name.isWild() ? 33 : 0;
    }

    private int sortTold(int comma) {
      if (tape.byteAt(comma) != ',') {
        return 0;
      }
      switch (tape.byteAt(comma + 1)) {
        case 'S': return 1;
        case 'P': return 2;
        case 'U': return 3;
        default: return 0;
      }
    }

    private int wayTold(int comma) {
      int letter = tape.byteAt(comma) == ',' ? tape.byteAt(comma + 1) : NONE;
      return letter == 'R' || letter == 'W' ? letter : 0;
    }

    private int openToRead(Channel channel) {
      directory.rewind();
      int fault = directory.find(Directory.FITTING, name);
      if (fault != 0) {
        return fault;
      }
      if (!directory.found) {
        return status.set(62, 0, 0);
      }
      if (!directory.isClosed()) {
        return status.set(60, 0, 0);
      }
      if (sort != 0 && sort != (directory.type() & 3)) {
        return status.set(64, 0, 0);
      }
      int track = directory.firstTrack();
      int sector = directory.firstSector();
      if (!Disk.isLegal(track, sector)) {
        return status.set(66, track, sector);
      }
      fault = disk.readBlock(track, sector, channel.row);
      if (fault == 0) {
        channel.mode = Channel.READS;
        channel.unfold();
      }
      return fault;
    }

    private int openToWrite(Channel channel) {
      directory.rewind();
      int fault = directory.find(Directory.NAMED, name);
      if (fault == 0 && directory.found) {
        if (!replaces) {
          return status.set(63, 0, 0);
        }
        if (!directory.isClosed()) {
          return status.set(60, 0, 0);
        }
        fault = scratchFound();
      }
      if (fault == 0) {
        fault = findRoom();
      }
      if (fault == 0) {
        fault = startFile(channel);
      }
      return fault;
    }

    /**
     * SCRATCHES the ENTRY at which the directory is. The MAP is stored behind a fault of the chain too,
     * and that fault is the one to be told.
     */
    int scratchFound() {
      int fault = map.load();
      if (fault != 0) {
        return fault;
      }
      fault = giveBackChain(directory.firstTrack(), directory.firstSector());
      int faultTrack = status.track;
      int faultSector = status.sector;
      int storing = map.store();
      if (fault != 0) {
        return status.set(fault, faultTrack, faultSector);
      }
      return storing != 0 ? storing : directory.changeType(0);
    }

    private int giveBackChain(int track, int sector) {
      int t = track;
      int s = sector;
      for (int i = 0; i < CHAIN_MOST; i++) {
        if (!Disk.isLegal(t, s)) {
          return status.set(71, t, s);
        }
        map.giveBack(t, s);
        int fault = disk.readBlock(t, s, row);
        if (fault != 0 || row[0] == 0) {
          return fault;
        }
        t = row[0];
        s = row[1];
      }
      return status.set(71, t, s);
    }

    /** Goes to the first ENTRY without TYPE, in a new block of the DIRECTORY if need be. */
    private int findRoom() {
      directory.rewind();
      int fault = directory.find(Directory.EMPTY, name);
      if (fault != 0 || directory.found) {
        return fault;
      }
      if (directory.isFull()) {
        return status.set(72, 0, 0);
      }
      fault = map.load();
      if (fault == 0 && !map.pickForDirectory()) {
        return status.set(72, 0, 0);
      }
      if (fault == 0) {
        fault = map.store();
      }
      if (fault == 0) {
        fault = directory.writeEmpty(map.track, map.sector);
      }
      return fault != 0 ? fault : directory.lengthen(map.track, map.sector);
    }

    private int startFile(Channel channel) {
      int fault = map.load();
      if (fault == 0 && !map.pick()) {
        return status.set(72, 0, 0);
      }
      if (fault == 0) {
        fault = map.store();
      }
      if (fault == 0) {
        fault = directory.changeToNew(sort, map, name);
      }
      if (fault == 0) {
        channel.begin(Channel.WRITES);
        channel.beginBlock(map.track, map.sector);
        channel.firstTrack = map.track;
        channel.firstSector = map.sector;
        channel.count = 1;
        channel.keepEntry(directory);
      }
      return fault;
    }

    /** READ: how many bytes have come. */
    int receive(int c, int n, int[] to) {
      ended = false;
      if (c < 0 || c >= CHANNELS || channels[c].mode == Channel.SHUT || channels[c].mode == Channel.WRITES) {
        status.set(61, 0, 0);
        return 0;
      }
      int count = 0;
      int value = 0;
      while (count < n && count < to.length && !ended && value != NONE) {
        value = nextByte(channels[c]);
        if (value != NONE) {
          to[count] = value;
          count++;
        }
      }
      return count;
    }

    private int nextByte(Channel channel) {
      if (channel.mode == Channel.BUFFER) {
        ended = channel.place == Disk.BLOCK - 1;
        int value = channel.row[channel.place & 63];
        channel.place = (channel.place + 1) & 63;
        return value;
      }
      if (channel.place >= channel.end && !channel.isLast) {
        int fault = channel.mode == Channel.LISTS ? makeLine(channel) : readNext(channel);
        if (fault != 0) {
          channel.mode = Channel.SHUT;
          return NONE;
        }
      }
      if (channel.place >= channel.end || channel.place >= channel.row.length) {
        return NONE;
      }
      int value = channel.row[channel.place];
      channel.place++;
      ended = channel.isLast && channel.place >= channel.end;
      return value;
    }

    private int readNext(Channel channel) {
      int track = channel.row[0];
      int sector = channel.row[1];
      if (!Disk.isLegal(track, sector)) {
        return status.set(71, track, sector);
      }
      int fault = disk.readBlock(track, sector, channel.row);
      if (fault == 0) {
        channel.unfold();
      }
      return fault;
    }

    /** Makes a LIST's next line of what the disk has now. */
    private int makeLine(Channel channel) {
      channel.startLine();
      if (!channel.titled) {
        int fault = map.load();
        addTitle(channel);
        directory.rewind();
        channel.keepEntry(directory);
        channel.titled = true;
        return fault;
      }
      goToEntryOf(channel);
      int fault = directory.find(Directory.FITTING, channel.pattern);
      if (fault == 0 && directory.found) {
        channel.keepEntry(directory);
        addEntry(channel);
      } else if (fault == 0) {
        fault = map.load();
        addFree(channel);
        channel.isLast = true;
      }
      return fault;
    }

    private void addTitle(Channel channel) {
      channel.add('"');
      for (int i = 0; i < Pattern.MOST; i++) {
        int letter = map.row[BlockMap.NAME_AT + i];
        channel.add(letter == Pattern.FILLER ? ' ' : letter);
      }
      channel.add('"');
      channel.add(' ');
      channel.add(map.row[BlockMap.ID_AT]);
      channel.add(map.row[BlockMap.ID_AT + 1]);
      channel.add(13);
    }

    private void addEntry(Channel channel) {
      channel.addNumber(directory.count());
      channel.add(' ');
      channel.add('"');
      for (int i = 0; i < Pattern.MOST && directory.nameByte(i) != Pattern.FILLER; i++) {
        channel.add(directory.nameByte(i));
      }
      channel.add('"');
      channel.add(' ');
      channel.add("?SPU".charAt(directory.type() & 3));
      if (!directory.isClosed()) {
        channel.add('*');
      }
      channel.add(13);
    }

    private void addFree(Channel channel) {
      channel.addNumber(map.freeSum());
      channel.add(' ');
      channel.add('F');
      channel.add('R');
      channel.add('E');
      channel.add('E');
      channel.add(13);
    }

    /** WRITE: the TEXT goes to a BUFFER or a FILE. */
    void sendBytes(int c) {
      int mode = c >= 0 && c < CHANNELS ? channels[c].mode : Channel.SHUT;
      if (mode == Channel.BUFFER) {
        for (int i = 0; i < tape.length; i++) {
          channels[c].row[channels[c].place & 63] = tape.byteAt(i);
          channels[c].place = (channels[c].place + 1) & 63;
        }
      } else if (mode == Channel.WRITES) {
        int fault = 0;
        for (int i = 0; i < tape.length && fault == 0; i++) {
          fault = addToFile(channels[c], tape.byteAt(i));
        }
      } else {
        status.set(61, 0, 0);
      }
    }

    private int addToFile(Channel channel, int value) {
      if (channel.place >= Disk.BLOCK) {
        int fault = map.load();
        if (fault == 0) {
          boolean picked = map.pickBehind(channel.track, channel.sector);
          fault = picked ? goToNextBlock(channel) : giveUpFile(channel);
        }
        if (fault != 0) {
          channel.mode = Channel.SHUT;
          return fault;
        }
      }
      channel.row[channel.place & 63] = value;
      channel.place++;
      return 0;
    }

    private int goToNextBlock(Channel channel) {
      int fault = map.store();
      if (fault != 0) {
        return fault;
      }
      channel.row[0] = map.track;
      channel.row[1] = map.sector;
      fault = disk.writeBlock(channel.track, channel.sector, channel.row);
      if (fault == 0) {
        channel.beginBlock(map.track, map.sector);
        channel.count++;
      }
      return fault;
    }

    /** The disk is full: the FILE's blocks, all but the latest of which lie on the disk, are given back. */
    private int giveUpFile(Channel channel) {
      int t = channel.firstTrack;
      int s = channel.firstSector;
      for (int i = 0; i <= CHAIN_MOST && !(t == channel.track && s == channel.sector); i++) {
        if (!Disk.isLegal(t, s) || i == CHAIN_MOST) {
          return status.set(71, t, s);
        }
        int fault = disk.readBlock(t, s, row);
        if (fault != 0) {
          return fault;
        }
        map.giveBack(t, s);
        t = row[0];
        s = row[1];
      }
      map.giveBack(channel.track, channel.sector);
      int fault = map.store();
      if (fault == 0) {
        goToEntryOf(channel);
        fault = directory.changeType(0);
      }
      return fault != 0 ? fault : status.set(72, 0, 0);
    }
  }

  /** What channel 15 is told to do. */
  private static final class Commands {
    private static final int SCRATCH_MOST = 1000;

    private final Dos dos;
    private final Status status;
    private final Disk disk;
    private final Tape tape;
    private final BlockMap map;
    private final Directory directory;
    private final Processor processor;
    private final Pattern name = new Pattern();
    private final Pattern old = new Pattern();
    private final Pattern all = new Pattern();

    Commands(Dos dos, Processor processor) {
      this.dos = dos;
      this.processor = processor;
      status = dos.status;
      disk = dos.disk;
      tape = dos.tape;
      map = dos.map;
      directory = dos.directory;
      all.fitAll();
    }

    int run() {
      if (tape.length == 0) {
        return 0;
      }
      status.begin();
      if (tape.length > TEXT_MOST) {
        return status.set(32, 0, 0);
      }
      switch (tape.byteAt(0)) {
        case 'N': return newDisk();
        case 'S': return scratch();
        case 'R': return rename();
        case 'I': return tape.length == 1 ? initialise() : unknown();
        case 'V': return tape.length == 1 ? validate() : unknown();
        case 'U': return user();
        case 'B': return tape.byteAt(1) == '-' ? block() : unknown();
        case 'M': return tape.byteAt(1) == '-' ? program() : unknown();
        default: return unknown();
      }
    }

    private int unknown() {
      return status.set(31, 0, 0);
    }

    private int newDisk() {
      int comma = tape.find(',', 2);
      int to = comma == NONE ? tape.length : comma;
      boolean good = tape.byteAt(1) == ':' && name.take(tape, 2, to) && !name.isEmpty();
      if (!good || comma != NONE && tape.length - comma != 3) {
        return status.set(30, 0, 0);
      }
      if (name.isWild()) {
        return status.set(33, 0, 0);
      }
      int fault = 0;
      if (comma != NONE) {
        fault = formatAll(tape.byteAt(comma + 1), tape.byteAt(comma + 2));
      } else if (!disk.hasId()) {
        fault = disk.takeId();
      }
      if (fault == 0) {
        map.begin(name);
        fault = map.store();
      }
      return fault != 0 ? fault : directory.writeEmpty(Disk.MAP_TRACK, 1);
    }

    private int formatAll(int first, int second) {
      dos.dropAll();
      for (int track = Disk.TRACKS; track >= 1; track--) {
        int fault = disk.format(track, first, second);
        if (fault != 0) {
          return fault;
        }
      }
      disk.setId(first, second);
      return 0;
    }

    private int scratch() {
      if (tape.byteAt(1) != ':' || !name.take(tape, 2, tape.length) || name.isEmpty()) {
        return status.set(30, 0, 0);
      }
      int count = 0;
      boolean more = true;
      for (int i = 0; i < SCRATCH_MOST && more; i++) {
        directory.rewind();
        int fault = directory.find(Directory.FITTING, name);
        more = directory.found;
        if (fault == 0 && more) {
          fault = dos.scratchFound();
          count++;
        }
        if (fault != 0) {
          return fault;
        }
      }
      return status.set(1, count, 0);
    }

    private int rename() {
      int split = tape.find('=', 2);
      boolean good = tape.byteAt(1) == ':' && split != NONE && name.take(tape, 2, split)
          && old.take(tape, split + 1, tape.length) && !name.isEmpty() && !old.isEmpty();
      if (!good) {
        return status.set(30, 0, 0);
      }
      if (name.isWild() || old.isWild()) {
        return status.set(33, 0, 0);
      }
      directory.rewind();
      int fault = directory.find(Directory.NAMED, name);
      if (fault == 0 && directory.found) {
        return status.set(63, 0, 0);
      }
      if (fault == 0) {
        directory.rewind();
        fault = directory.find(Directory.NAMED, old);
      }
      if (fault == 0 && !directory.found) {
        return status.set(62, 0, 0);
      }
      return fault != 0 ? fault : directory.changeName(name);
    }

    private int initialise() {
      int fault = disk.takeId();
      return fault != 0 ? fault : map.load();
    }

    private int validate() {
      int fault = map.load();
      if (fault == 0) {
        map.freeAll();
        map.takeBlock(Disk.MAP_TRACK, 0);
        fault = takeDirectory();
      }
      directory.rewind();
      for (int i = 0; i < Disk.BLOCK && fault == 0; i++) {
        fault = directory.find(Directory.FITTING, all);
        if (fault == 0 && !directory.found) {
          return map.store();
        }
        if (fault == 0) {
          fault = directory.isClosed()
              ? takeChain(directory.firstTrack(), directory.firstSector())
              : directory.changeType(0);
        }
      }
      return fault;
    }

    /** The blocks of the DIRECTORY are not FREE. */
    private int takeDirectory() {
      int t = Disk.MAP_TRACK;
      int s = 1;
      for (int i = 0; i < Directory.BLOCKS_MOST; i++) {
        if (!Disk.isLegal(t, s)) {
          return status.set(71, t, s);
        }
        map.takeBlock(t, s);
        int fault = disk.readBlock(t, s, dos.row);
        if (fault != 0 || dos.row[0] == 0) {
          return fault;
        }
        t = dos.row[0];
        s = dos.row[1];
      }
      return 0;
    }

    /** The blocks of a FILE are not FREE; a block of two chains, or twice of one, is a fault. */
    private int takeChain(int track, int sector) {
      int t = track;
      int s = sector;
      for (int i = 0; i <= 2 * Dos.CHAIN_MOST; i++) {
        if (!map.isFree(t, s)) {
          return status.set(71, t, s);
        }
        map.takeBlock(t, s);
        int fault = disk.readBlock(t, s, dos.row);
        if (fault != 0 || dos.row[0] == 0) {
          return fault;
        }
        t = dos.row[0];
        s = dos.row[1];
      }
      return status.set(71, t, s);
    }

    private int user() {
      switch (tape.byteAt(1)) {
        case '1': return moveBlock(false);
        case '2': return moveBlock(true);
        case 'I': return tape.length == 2 ? restart() : unknown();
        default: return unknown();
      }
    }

    private int restart() {
      dos.dropAll();
      disk.dropId();
      return status.set(73, 0, 0);
    }

    private int moveBlock(boolean toDisk) {
      tape.startNumbers();
      int c = tape.nextNumber();
      int t = tape.nextNumber();
      int s = tape.nextNumber();
      if (c == NONE || t == NONE || s == NONE) {
        return status.set(30, 0, 0);
      }
      Channel channel = dos.buffer(c);
      if (channel == null) {
        return status.set(70, 0, 0);
      }
      if (!Disk.isLegal(t, s)) {
        return status.set(66, t, s);
      }
      if (toDisk) {
        return disk.writeBlock(t, s, channel.row);
      }
      int fault = disk.readBlock(t, s, channel.row);
      if (fault == 0) {
        channel.place = 0;
      }
      return fault;
    }

    private int block() {
      switch (tape.byteAt(2)) {
        case 'P': return setPlace();
        case 'A': return allocate(true);
        case 'F': return allocate(false);
        default: return unknown();
      }
    }

    private int setPlace() {
      tape.startNumbers();
      int c = tape.nextNumber();
      int n = tape.nextNumber();
      if (c == NONE || n == NONE) {
        return status.set(30, 0, 0);
      }
      Channel channel = dos.buffer(c);
      if (channel == null) {
        return status.set(70, 0, 0);
      }
      channel.place = n & 63;
      return 0;
    }

    private int allocate(boolean takes) {
      tape.startNumbers();
      int t = tape.nextNumber();
      int s = tape.nextNumber();
      if (t == NONE || s == NONE) {
        return status.set(30, 0, 0);
      }
      if (!Disk.isLegal(t, s)) {
        return status.set(66, t, s);
      }
      int fault = map.load();
      if (fault != 0) {
        return fault;
      }
      if (takes && !map.isFree(t, s)) {
        return tellNextFree(t, s);
      }
      if (takes) {
        map.takeBlock(t, s);
      } else {
        map.giveBack(t, s);
      }
      return map.store();
    }

    private int tellNextFree(int track, int sector) {
      int from = sector + 1;
      for (int t = track; t <= Disk.TRACKS; t++) {
        for (int s = from; s < Disk.sectorsOf(t); s++) {
          if (map.isFree(t, s)) {
            return status.set(65, t, s);
          }
        }
        from = 0;
      }
      return status.set(65, 0, 0);
    }

    private int program() {
      int address = argument(3) + 256 * argument(4);
      int n = argument(5);
      switch (tape.byteAt(2)) {
        case 'W':
          for (int i = 0; i < n && 6 + i < tape.length; i++) {
            processor.set(address + i, argument(6 + i));
          }
          return 0;
        case 'R':
          if (n > Status.REPLY_MOST) {
            return status.set(32, 0, 0);
          }
          for (int i = 0; i < n; i++) {
            status.addReply(processor.get(address + i));
          }
          return 0;
        case 'E':
          int how = processor.run(address);
          return how == 0 ? 0 : status.set(28, how, 0);
        default:
          return unknown();
      }
    }

    private int argument(int i) {
      return Math.max(0, tape.byteAt(i));
    }
  }

  /** The second processor: a 6502 with its own memory. */
  private static final class Processor {
    static final int SIZE = 2048;

    private static final int ROUND = SIZE - 1;
    private static final int CYCLES_MOST = 10000;
    private static final int N = 128;
    private static final int V = 64;
    /** Bits 4 and 5 of P, which only PHP shows as it likes. */
    private static final int FIXED = 48;
    private static final int D = 8;
    private static final int I = 4;
    private static final int Z = 2;
    private static final int C = 1;

    private static final int NO = 0;
    private static final int LDA = 1;
    private static final int LDX = 2;
    private static final int LDY = 3;
    private static final int ADC = 4;
    private static final int SBC = 5;
    private static final int AND = 6;
    private static final int ORA = 7;
    private static final int EOR = 8;
    private static final int CMP = 9;
    private static final int CPX = 10;
    private static final int CPY = 11;
    private static final int BIT = 12;
    private static final int STA = 13;
    private static final int STX = 14;
    private static final int STY = 15;
    private static final int ASL = 16;
    private static final int LSR = 17;
    private static final int ROL = 18;
    private static final int ROR = 19;
    private static final int INC = 20;
    private static final int DEC = 21;
    private static final int BPL = 22;
    private static final int BMI = 23;
    private static final int BVC = 24;
    private static final int BVS = 25;
    private static final int BCC = 26;
    private static final int BCS = 27;
    private static final int BNE = 28;
    private static final int BEQ = 29;
    private static final int TAX = 30;
    private static final int TAY = 31;
    private static final int TXA = 32;
    private static final int TYA = 33;
    private static final int TSX = 34;
    private static final int TXS = 35;
    private static final int INX = 36;
    private static final int INY = 37;
    private static final int DEX = 38;
    private static final int DEY = 39;
    private static final int CLC = 40;
    private static final int SEC = 41;
    private static final int CLI = 42;
    private static final int SEI = 43;
    private static final int CLV = 44;
    private static final int CLD = 45;
    private static final int SED = 46;
    private static final int NOP = 47;
    private static final int PHA = 48;
    private static final int PHP = 49;
    private static final int PLA = 50;
    private static final int PLP = 51;
    private static final int JMP = 52;
    private static final int JSR = 53;
    private static final int RTS = 54;
    private static final int RTI = 55;
    private static final int BRK = 56;

    /** The ways to an address: none, A, next byte, page 0 (by X, by Y), two bytes (by X, by Y), .. */
    private static final int IMP = 0;
    private static final int ACC = 1;
    private static final int IMM = 2;
    private static final int ZPG = 3;
    private static final int ZPX = 4;
    private static final int ZPY = 5;
    private static final int ABS = 6;
    private static final int ABX = 7;
    private static final int ABY = 8;
    private static final int IZX = 9;
    private static final int IZY = 10;
    private static final int REL = 11;
    private static final int IND = 12;

    private static final int[] CODES = {
      BRK, ORA, NO, NO, NO, ORA, ASL, NO, PHP, ORA, ASL, NO, NO, ORA, ASL, NO,
      BPL, ORA, NO, NO, NO, ORA, ASL, NO, CLC, ORA, NO, NO, NO, ORA, ASL, NO,
      JSR, AND, NO, NO, BIT, AND, ROL, NO, PLP, AND, ROL, NO, BIT, AND, ROL, NO,
      BMI, AND, NO, NO, NO, AND, ROL, NO, SEC, AND, NO, NO, NO, AND, ROL, NO,
      RTI, EOR, NO, NO, NO, EOR, LSR, NO, PHA, EOR, LSR, NO, JMP, EOR, LSR, NO,
      BVC, EOR, NO, NO, NO, EOR, LSR, NO, CLI, EOR, NO, NO, NO, EOR, LSR, NO,
      RTS, ADC, NO, NO, NO, ADC, ROR, NO, PLA, ADC, ROR, NO, JMP, ADC, ROR, NO,
      BVS, ADC, NO, NO, NO, ADC, ROR, NO, SEI, ADC, NO, NO, NO, ADC, ROR, NO,
      NO, STA, NO, NO, STY, STA, STX, NO, DEY, NO, TXA, NO, STY, STA, STX, NO,
      BCC, STA, NO, NO, STY, STA, STX, NO, TYA, STA, TXS, NO, NO, STA, NO, NO,
      LDY, LDA, LDX, NO, LDY, LDA, LDX, NO, TAY, LDA, TAX, NO, LDY, LDA, LDX, NO,
      BCS, LDA, NO, NO, LDY, LDA, LDX, NO, CLV, LDA, TSX, NO, LDY, LDA, LDX, NO,
      CPY, CMP, NO, NO, CPY, CMP, DEC, NO, INY, CMP, DEX, NO, CPY, CMP, DEC, NO,
      BNE, CMP, NO, NO, NO, CMP, DEC, NO, CLD, CMP, NO, NO, NO, CMP, DEC, NO,
      CPX, SBC, NO, NO, CPX, SBC, INC, NO, INX, SBC, NOP, NO, CPX, SBC, INC, NO,
      BEQ, SBC, NO, NO, NO, SBC, INC, NO, SED, SBC, NO, NO, NO, SBC, INC, NO};

    private static final int[] WAYS = {
      IMP, IZX, IMP, IMP, IMP, ZPG, ZPG, IMP, IMP, IMM, ACC, IMP, IMP, ABS, ABS, IMP,
      REL, IZY, IMP, IMP, IMP, ZPX, ZPX, IMP, IMP, ABY, IMP, IMP, IMP, ABX, ABX, IMP,
      ABS, IZX, IMP, IMP, ZPG, ZPG, ZPG, IMP, IMP, IMM, ACC, IMP, ABS, ABS, ABS, IMP,
      REL, IZY, IMP, IMP, IMP, ZPX, ZPX, IMP, IMP, ABY, IMP, IMP, IMP, ABX, ABX, IMP,
      IMP, IZX, IMP, IMP, IMP, ZPG, ZPG, IMP, IMP, IMM, ACC, IMP, ABS, ABS, ABS, IMP,
      REL, IZY, IMP, IMP, IMP, ZPX, ZPX, IMP, IMP, ABY, IMP, IMP, IMP, ABX, ABX, IMP,
      IMP, IZX, IMP, IMP, IMP, ZPG, ZPG, IMP, IMP, IMM, ACC, IMP, IND, ABS, ABS, IMP,
      REL, IZY, IMP, IMP, IMP, ZPX, ZPX, IMP, IMP, ABY, IMP, IMP, IMP, ABX, ABX, IMP,
      IMP, IZX, IMP, IMP, ZPG, ZPG, ZPG, IMP, IMP, IMP, IMP, IMP, ABS, ABS, ABS, IMP,
      REL, IZY, IMP, IMP, ZPX, ZPX, ZPY, IMP, IMP, ABY, IMP, IMP, IMP, ABX, IMP, IMP,
      IMM, IZX, IMM, IMP, ZPG, ZPG, ZPG, IMP, IMP, IMM, IMP, IMP, ABS, ABS, ABS, IMP,
      REL, IZY, IMP, IMP, ZPX, ZPX, ZPY, IMP, IMP, ABY, IMP, IMP, ABX, ABX, ABY, IMP,
      IMM, IZX, IMP, IMP, ZPG, ZPG, ZPG, IMP, IMP, IMM, IMP, IMP, ABS, ABS, ABS, IMP,
      REL, IZY, IMP, IMP, IMP, ZPX, ZPX, IMP, IMP, ABY, IMP, IMP, IMP, ABX, ABX, IMP,
      IMM, IZX, IMP, IMP, ZPG, ZPG, ZPG, IMP, IMP, IMM, IMP, IMP, ABS, ABS, ABS, IMP,
      REL, IZY, IMP, IMP, IMP, ZPX, ZPX, IMP, IMP, ABY, IMP, IMP, IMP, ABX, ABX, IMP};

    private static final int[] TAKES = {
      7, 6, 0, 0, 0, 3, 5, 0, 3, 2, 2, 0, 0, 4, 6, 0,
      2, 5, 0, 0, 0, 4, 6, 0, 2, 4, 0, 0, 0, 4, 7, 0,
      6, 6, 0, 0, 3, 3, 5, 0, 4, 2, 2, 0, 4, 4, 6, 0,
      2, 5, 0, 0, 0, 4, 6, 0, 2, 4, 0, 0, 0, 4, 7, 0,
      6, 6, 0, 0, 0, 3, 5, 0, 3, 2, 2, 0, 3, 4, 6, 0,
      2, 5, 0, 0, 0, 4, 6, 0, 2, 4, 0, 0, 0, 4, 7, 0,
      6, 6, 0, 0, 0, 3, 5, 0, 4, 2, 2, 0, 5, 4, 6, 0,
      2, 5, 0, 0, 0, 4, 6, 0, 2, 4, 0, 0, 0, 4, 7, 0,
      0, 6, 0, 0, 3, 3, 3, 0, 2, 0, 2, 0, 4, 4, 4, 0,
      2, 6, 0, 0, 4, 4, 4, 0, 2, 5, 2, 0, 0, 5, 0, 0,
      2, 6, 2, 0, 3, 3, 3, 0, 2, 2, 2, 0, 4, 4, 4, 0,
      2, 5, 0, 0, 4, 4, 4, 0, 2, 4, 2, 0, 4, 4, 4, 0,
      2, 6, 0, 0, 3, 3, 5, 0, 2, 2, 2, 0, 4, 4, 6, 0,
      2, 5, 0, 0, 0, 4, 6, 0, 2, 4, 0, 0, 0, 4, 7, 0,
      2, 6, 0, 0, 3, 3, 5, 0, 2, 2, 2, 0, 4, 4, 6, 0,
      2, 5, 0, 0, 0, 4, 6, 0, 2, 4, 0, 0, 0, 4, 7, 0};

    int a;
    int x;
    int y;
    int s;
    int p;
    int pc;
    int cycles;
    private final int[] cells = new int[SIZE];
    /** Where the code in hand has its operand, and whether a page was left on the way there. */
    private int address;
    private boolean left;

    int get(int at) {
      return cells[at & ROUND];
    }

    void set(int at, int value) {
      cells[at & ROUND] = value & 255;
    }

    void reset() {
      Arrays.fill(cells, 0);
      begin(0);
      s = 0;
      p = 0;
    }

    private void begin(int from) {
      a = 0;
      x = 0;
      y = 0;
      s = 255;
      p = 36;
      pc = from & ROUND;
      cycles = 0;
    }

    /** Does a PROGRAM: 0 if it ends by BRK, 1 by a code that there is not, 2 by its cycles. */
    int run(int from) {
      begin(from);
      for (int i = 0; i < CYCLES_MOST && cycles < CYCLES_MOST; i++) {
        int code = get(pc) & 255;
        int what = CODES[code];
        if (what == BRK) {
          cycles += TAKES[code];
          return 0;
        }
        if (what == NO) {
          return 1;
        }
        pc = (pc + 1) & ROUND;
        cycles += TAKES[code];
        locate(WAYS[code]);
        perform(what, WAYS[code]);
      }
      return 2;
    }

    private void perform(int what, int way) {
      if (what <= BIT) {
        cycles += left ? 1 : 0;
        useValue(what, get(address));
      } else if (what <= STY) {
        set(address, what == STA ? a : what == STX ? x : y);
      } else if (what <= DEC) {
        changeValue(what, way == ACC);
      } else if (what <= BEQ) {
        branch(what);
      } else if (what <= DEY) {
        move(what);
      } else if (what <= NOP) {
        changeFlag(what);
      } else {
        stack(what);
      }
    }

    private int fetch() {
      int value = cells[pc & ROUND];
      pc = (pc + 1) & ROUND;
      return value;
    }

    private int fetchTwo() {
      int low = fetch();
      return low | (fetch() << 8);
    }

    /** Two bytes of page 0, which is gone round. */
    private int pair(int at) {
      return cells[at & 255] | (cells[(at + 1) & 255] << 8);
    }

    private void indexed(int base, int by) {
      address = base + by;
      left = (base & 255) + by > 255;
    }

    private void locate(int way) {
      left = false;
      switch (way) {
        case IMM:
          address = pc;
          pc = (pc + 1) & ROUND;
          break;
        case ZPG:
          address = fetch();
          break;
        case ZPX:
          address = (fetch() + x) & 255;
          break;
        case ZPY:
          address = (fetch() + y) & 255;
          break;
        case ABS:
          address = fetchTwo();
          break;
        case ABX:
          indexed(fetchTwo(), x);
          break;
        case ABY:
          indexed(fetchTwo(), y);
          break;
        case IZX:
          address = pair(fetch() + x);
          break;
        case IZY:
          indexed(pair(fetch()), y);
          break;
        case REL:
          int by = fetch();
          address = pc + (by < 128 ? by : by - 256);
          left = (address & 0xFF00) != (pc & 0xFF00);
          break;
        case IND:
          int at = fetchTwo();
          address = get(at) | (get((at & 0xFF00) | ((at + 1) & 255)) << 8);
          break;
        default:
          break;
      }
    }

    private void flag(int which, boolean is) {
      p = is ? p | which : p & ~which;
    }

    private boolean has(int which) {
      return (p & which) != 0;
    }

    private int marked(int value) {
      int zero = (value & 255) == 0 ? Z : 0;
      p = (p & ~(N | Z)) | (value & N) | zero;
      return value & 255;
    }

    private void useValue(int what, int value) {
      switch (what) {
        case LDA:
          a = marked(value);
          break;
        case LDX:
          x = marked(value);
          break;
        case LDY:
          y = marked(value);
          break;
        case AND:
          a = marked(a & value);
          break;
        case ORA:
          a = marked(a | value);
          break;
        case EOR:
          a = marked(a ^ value);
          break;
        case ADC:
          add(value);
          break;
        case SBC:
          subtract(value);
          break;
        case BIT:
          flag(N, (value & 128) != 0);
          flag(V, (value & 64) != 0);
          flag(Z, (value & a) == 0);
          break;
        default:
          compare(what == CMP ? a : what == CPX ? x : y, value);
          break;
      }
    }

    private void compare(int register, int value) {
      marked(register - value);
      flag(C, register >= value);
    }

    private void addBinary(int value) {
      int sum = a + value + (p & C);
      int over = (~(a ^ value) & (a ^ sum) & 128) != 0 ? V : 0;
      int carry = sum > 255 ? C : 0;
      int zero = (sum & 255) == 0 ? Z : 0;
      p = (p & ~(N | V | Z | C)) | (sum & N) | over | zero | carry;
      a = sum & 255;
    }

    private void add(int value) {
      if (!has(D)) {
        addBinary(value);
        return;
      }
      int low = (a & 15) + (value & 15) + (p & C);
      if (low > 9) {
        low = 16 + ((low + 6) & 15);
      }
      int sum = (a & 240) + (value & 240) + low;
      flag(Z, ((a + value + (p & C)) & 255) == 0);
      flag(N, (sum & 128) != 0);
      flag(V, (~(a ^ value) & (a ^ sum) & 128) != 0);
      if (sum > 159) {
        sum += 96;
      }
      flag(C, sum > 255);
      a = sum & 255;
    }

    private void subtract(int value) {
      int low = (a & 15) - (value & 15) - 1 + (p & C);
      if (low < 0) {
        low = ((low - 6) & 15) - 16;
      }
      int rest = (a & 240) - (value & 240) + low;
      if (rest < 0) {
        rest -= 96;
      }
      addBinary(value ^ 255);
      if (has(D)) {
        a = rest & 255;
      }
    }

    private void changeValue(int what, boolean ofA) {
      int value = ofA ? a : get(address);
      int carry = p & C;
      switch (what) {
        case ASL:
          flag(C, (value & 128) != 0);
          value = value << 1;
          break;
        case LSR:
          flag(C, (value & 1) != 0);
          value = value >> 1;
          break;
        case ROL:
          flag(C, (value & 128) != 0);
          value = (value << 1) | carry;
          break;
        case ROR:
          flag(C, (value & 1) != 0);
          value = (value >> 1) | (carry << 7);
          break;
        case INC:
          value = value + 1;
          break;
        default:
          value = value - 1;
          break;
      }
      value = marked(value);
      if (ofA) {
        a = value;
      } else {
        set(address, value);
      }
    }

    private void branch(int what) {
      boolean goes;
      switch (what) {
        case BPL: goes = !has(N); break;
        case BMI: goes = has(N); break;
        case BVC: goes = !has(V); break;
        case BVS: goes = has(V); break;
        case BCC: goes = !has(C); break;
        case BCS: goes = has(C); break;
        case BNE: goes = !has(Z); break;
        default: goes = has(Z); break;
      }
      if (goes) {
        cycles += left ? 2 : 1;
        pc = address & ROUND;
      }
    }

    private void move(int what) {
      switch (what) {
        case TAX: x = marked(a); break;
        case TAY: y = marked(a); break;
        case TXA: a = marked(x); break;
        case TYA: a = marked(y); break;
        case TSX: x = marked(s); break;
        case TXS: s = x; break;
        case INX: x = marked(x + 1); break;
        case INY: y = marked(y + 1); break;
        case DEX: x = marked(x - 1); break;
        default: y = marked(y - 1); break;
      }
    }

    private void changeFlag(int what) {
      switch (what) {
        case CLC: flag(C, false); break;
        case SEC: flag(C, true); break;
        case CLI: flag(I, false); break;
        case SEI: flag(I, true); break;
        case CLV: flag(V, false); break;
        case CLD: flag(D, false); break;
        case SED: flag(D, true); break;
        default: break;
      }
    }

    private void push(int value) {
      cells[256 + (s & 255)] = value & 255;
      s = (s - 1) & 255;
    }

    private int pull() {
      s = (s + 1) & 255;
      return cells[256 + (s & 255)];
    }

    private int pullTwo() {
      int low = pull();
      return low | (pull() << 8);
    }

    private void stack(int what) {
      switch (what) {
        case PHA:
          push(a);
          break;
        case PHP:
          push(p | FIXED);
          break;
        case PLA:
          a = marked(pull());
          break;
        case PLP:
          p = (pull() & ~FIXED) | (p & FIXED);
          break;
        case JMP:
          pc = address & ROUND;
          break;
        case JSR:
          int back = (pc - 1) & ROUND;
          push(back >> 8);
          push(back);
          pc = address & ROUND;
          break;
        case RTS:
          pc = (pullTwo() + 1) & ROUND;
          break;
        case RTI:
          p = (pull() & ~FIXED) | (p & FIXED);
          pc = pullTwo() & ROUND;
          break;
        default:
          break;
      }
    }
  }
}
