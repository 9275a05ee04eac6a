import java.util.Arrays;
import java.util.NoSuchElementException;

/**
 * A letter whose later lines rule by the rank of the places they stand at, as shared/DOC.md tells it.
 *
 * <p>Sets of lines, places, hands, matters, bids and over rules are bits of an int. All rows are made
 * in the constructor and used again, so that no call makes an object but the exception of led.
 */
public final class PostScripts {
    public static final int NONE = -1;

    // The answer where the question is sound but nothing is there: in doubt, no hand, no ring, blank.
    private static final int NOTHING = -2;
    // Losing ink can make -1 an honest answer of foot, so its refusal is another number.
    private static final int NO_FOOT = -100;

    private static final int TAPE = 900;
    private static final int FEED = 20;
    private static final int PLACES = 6;
    private static final int OVERS = 6;
    private static final int HANDS = 4;
    private static final int MATTERS = 4;
    private static final int LINES = 8;
    private static final int HIDDEN = 3;
    private static final int BIDS = 6;
    private static final int KEPT_ACTS = 16;
    private static final int IMAGES = 3;
    private static final int MOVES = 4;
    private static final int RING = 3;
    private static final int MOST_INK = 9;
    private static final int MOST_THUMBS = 60;
    private static final int SEEDS = 65537;
    private static final int MOST_INCHES = 9;
    // A hidden line says do or not of a matter, or is blank.
    private static final int SAYINGS = 2 * MATTERS + 1;
    private static final int FILLINGS = SAYINGS * SAYINGS * SAYINGS;

    private static final int NO_TROUBLE = 0;
    private static final int NO_SUCH = 1;
    private static final int NUMBER = 2;
    private static final int NO_ROOM = 3;
    private static final int FAULTY = 4;
    private static final int NOT_SO = 5;
    private static final int NONE_LEFT = 6;

    private static final int FORM = 1;
    private static final int UNTOLD = 2;
    private static final int AGAIN = 3;
    private static final int BOUNDS = 4;
    private static final int MANY = 5;
    private static final int LACKS = 6;
    private static final int FULL = 7;

    private static final int WROTE = 0;
    private static final int STRUCK = 1;
    private static final int FOLDED = 2;

    private final Reader reader;
    private final Order order;
    private final Order trial;
    private final Page now;
    private final Page[] images;
    private final Past past;
    private final Fillings fillings;
    private final Duel duel;
    private Letter current;
    private int imageCount;
    private int trouble;
    private int fault;
    private int faultAt;

    public PostScripts() {
        reader = new Reader();
        order = new Order();
        trial = new Order();
        now = new Page();
        images = new Page[IMAGES];
        for (int i = 0; i < IMAGES; i++) {
            images[i] = new Page();
        }
        past = new Past();
        fillings = new Fillings();
        duel = new Duel();
        current = new Letter();
        faultAt = NONE;
    }

    // ---- the letter

    public int feed(int a, int b, int c, int d, int e) {
        Tape tape = reader.tape;
        if (tape.size + FEED > TAPE) {
            return NONE;
        }
        tape.append(a);
        tape.append(b);
        tape.append(c);
        tape.append(d);
        tape.append(e);
        return tape.size;
    }

    public int letter(int n) {
        if (n < 0 || n > reader.tape.size) {
            return refuse(NUMBER);
        }
        reader.readFirst(n);
        reader.tape.size = 0;
        fault = reader.fault;
        faultAt = reader.faultAt;
        if (fault != 0) {
            return refuse(FAULTY);
        }
        Letter old = current;
        current = reader.draft;
        reader.draft = old;
        now.copyFrom(current.page);
        order.arrange(current, 0);
        fillings.known = false;
        past.count = 0;
        imageCount = 0;
        return grant(current.places);
    }

    public int fault() {
        return fault;
    }

    public int where() {
        return trouble == FAULTY ? faultAt : NONE;
    }

    // ---- now

    public int place(int p, int what) {
        if (!isPlace(p)) {
            return refuse(NO_SUCH);
        }
        switch (what) {
            case 0:
                return grant(current.rank[p]);
            case 1:
                return grant(current.inches[p]);
            case 2:
                return grant(roomAt(p));
            case 3:
                return grant(order.below[p]);
            case 4:
                return grant(now.linesAt(p));
            case 5:
                return grant(now.folded >> p & 1);
            default:
                return refuse(NO_SUCH);
        }
    }

    public int hand(int h, int what) {
        if (!isHand(h)) {
            return refuse(NO_SUCH);
        }
        switch (what) {
            case 0:
                return grant(current.purse[h]);
            case 1:
                return grant(now.linesBy(h));
            case 2:
                return grant(ruledBy(h));
            default:
                return refuse(NO_SUCH);
        }
    }

    public int line(int k, int what) {
        if (!isLine(k)) {
            return refuse(NO_SUCH);
        }
        switch (what) {
            case 0:
                return grant(now.hand[k]);
            case 1:
                return grant(now.place[k]);
            case 2:
                return grant(now.matter[k]);
            case 3:
                return grant(now.say[k]);
            case 4:
                return grant(now.inches[k]);
            case 5:
                return grant(now.struck >> k & 1);
            case 6:
                return grant(now.read() >> k & 1);
            case 7:
                return grant(beaters(k));
            default:
                return refuse(NO_SUCH);
        }
    }

    public int done(int m) {
        return isMatter(m) ? grant(verdict(m, now.read())) : refuse(NO_SUCH);
    }

    public int stands(int m) {
        return isMatter(m) ? grant(standing(m, now.read())) : refuse(NO_SUCH);
    }

    public int allDone() {
        if (noLetter()) {
            return refuse(NO_SUCH);
        }
        int read = now.read();
        int all = 0;
        for (int m = 0; m < current.matters; m++) {
            if (verdict(m, read) == 1) {
                all |= 1 << m;
            }
        }
        return grant(all);
    }

    public int ruler() {
        if (noLetter()) {
            return refuse(NO_SUCH);
        }
        int best = NOTHING;
        int most = 0;
        for (int h = 0; h < current.hands; h++) {
            int ruled = Integer.bitCount(ruledBy(h));
            if (ruled > most) {
                most = ruled;
                best = h;
            }
        }
        return grant(best);
    }

    public int power() {
        if (noLetter()) {
            return refuse(NO_SUCH);
        }
        int best = NOTHING;
        int most = 0;
        for (int h = 0; h < current.hands; h++) {
            int turned = turnedWithout(now.linesBy(h));
            if (turned > most) {
                most = turned;
                best = h;
            }
        }
        return grant(best);
    }

    // ---- line by line

    public int doneBy(int m, int n) {
        if (!isMatter(m)) {
            return refuse(NO_SUCH);
        }
        if (n < 0 || n > now.count) {
            return refuse(NUMBER);
        }
        return grant(verdictOfFirst(m, n));
    }

    public int changes(int m) {
        if (!isMatter(m)) {
            return refuse(NO_SUCH);
        }
        int often = 0;
        int before = verdictOfFirst(m, 0);
        for (int n = 1; n <= now.count; n++) {
            int then = verdictOfFirst(m, n);
            if (then != before) {
                often++;
            }
            before = then;
        }
        return grant(often);
    }

    public int since(int m) {
        if (!isMatter(m)) {
            return refuse(NO_SUCH);
        }
        int is = verdictOfFirst(m, now.count);
        int first = now.count;
        for (int n = now.count - 1; n >= 0 && verdictOfFirst(m, n) == is; n--) {
            first = n;
        }
        return grant(first);
    }

    public int idle() {
        if (noLetter()) {
            return refuse(NO_SUCH);
        }
        int read = now.read();
        int idle = 0;
        for (int k = 0; k < now.count; k++) {
            if ((read >> k & 1) == 1 && turnedWithout(1 << k) == 0) {
                idle |= 1 << k;
            }
        }
        return grant(idle);
    }

    public int turn(int m) {
        return isMatter(m) ? grant(leastTurn(m)) : refuse(NO_SUCH);
    }

    public int weakest() {
        if (noLetter()) {
            return refuse(NO_SUCH);
        }
        int best = NOTHING;
        int fewest = LINES + 1;
        for (int m = 0; m < current.matters; m++) {
            int lines = leastTurn(m);
            if (lines != NOTHING && Integer.bitCount(lines) < fewest) {
                fewest = Integer.bitCount(lines);
                best = m;
            }
        }
        return grant(best);
    }

    // ---- holding

    // What a line says has no part in whether it stands, so both ways of say have one answer.
    public int holds(int m, boolean say) {
        if (!isMatter(m)) {
            return refuse(NO_SUCH);
        }
        int written = now.placesOf(m, now.read());
        int open = openPlaces();
        int held = 0;
        for (int p = 0; p < current.places; p++) {
            // With more room a second inch at the place itself would beat the first one.
            boolean lastInch = (open >> p & 1) == 1 && roomAt(p) == 1;
            if (lastInch && order.unbeaten(written | open) == p) {
                held |= 1 << p;
            }
        }
        return grant(held);
    }

    public int doneIf(int m, int p, boolean say) {
        if (!isMatter(m) || !isPlace(p)) {
            return refuse(NO_SUCH);
        }
        if ((now.folded >> p & 1) == 1) {
            return refuse(NOT_SO);
        }
        if (roomAt(p) < 1) {
            return refuse(NO_ROOM);
        }
        int read = now.read();
        int bit = 1 << p;
        int dos = now.dosOf(m, read);
        return grant(order.outcome(now.placesOf(m, read) | bit, say ? dos | bit : dos & ~bit));
    }

    public int wins(int m, int n) {
        if (!isMatter(m)) {
            return refuse(NO_SUCH);
        }
        if (n < 0 || n > MOVES) {
            return refuse(NUMBER);
        }
        int read = now.read();
        setDuelRooms();
        boolean won = duel.wonByOne(order, now.placesOf(m, read), now.dosOf(m, read), n, true);
        return grant(won ? 1 : 0);
    }

    public int winsBy(int m, int n) {
        if (!isMatter(m)) {
            return refuse(NO_SUCH);
        }
        if (n < 1 || n > MOVES) {
            return refuse(NUMBER);
        }
        int read = now.read();
        setDuelRooms();
        return grant(duel.firstMove(order, now.placesOf(m, read), now.dosOf(m, read), n));
    }

    // ---- rings

    public int outranks(int p, int q) {
        if (!isPlace(p) || !isPlace(q) || p == q) {
            return refuse(NO_SUCH);
        }
        return grant(order.below[p] >> q & 1);
    }

    public int ring(int p) {
        if (!isPlace(p)) {
            return refuse(NO_SUCH);
        }
        return grant(order.secondOfRing(p) == NONE ? NOTHING : RING);
    }

    public int ringAt(int p, int i) {
        if (!isPlace(p) || i < 0 || i >= RING) {
            return refuse(NO_SUCH);
        }
        int second = order.secondOfRing(p);
        if (second == NONE) {
            return refuse(NO_SUCH);
        }
        if (i == 0) {
            return grant(p);
        }
        return grant(i == 1 ? second : order.thirdOfRing(p, second));
    }

    public int free() {
        if (noLetter()) {
            return refuse(NO_SUCH);
        }
        int best = 0;
        int fewest = OVERS + 1;
        for (int dropped = 0; dropped < 1 << current.overs; dropped++) {
            if (Integer.bitCount(dropped) < fewest) {
                trial.arrange(current, dropped);
                if (!trial.hasRing()) {
                    fewest = Integer.bitCount(dropped);
                    best = dropped;
                }
            }
        }
        return grant(best);
    }

    public int top() {
        if (noLetter()) {
            return refuse(NO_SUCH);
        }
        int best = 0;
        for (int p = 1; p < current.places; p++) {
            if (Integer.bitCount(order.below[p]) > Integer.bitCount(order.below[best])) {
                best = p;
            }
        }
        return grant(best);
    }

    // ---- bids

    public int taken() {
        return noLetter() ? refuse(NO_SUCH) : grant(bestBids(0));
    }

    public int paid() {
        return noLetter() ? refuse(NO_SUCH) : grant(current.bids.paysOf(bestBids(0)));
    }

    public int worthOf(int b) {
        if (b < 0 || b >= current.bids.count) {
            return refuse(NO_SUCH);
        }
        Bids bids = current.bids;
        return grant(bids.paysOf(bestBids(0)) - bids.paysOf(bestBids(1 << b)));
    }

    // ---- hidden lines

    public int fits() {
        if (noLetter()) {
            return refuse(NO_SUCH);
        }
        fillings.find(current, order);
        return grant(fillings.count);
    }

    public int fitAt(int i, int k) {
        if (!isHidden(k)) {
            return refuse(NO_SUCH);
        }
        fillings.find(current, order);
        if (i < 0 || i >= fillings.count) {
            return refuse(NO_SUCH);
        }
        int saying = fillings.saying(i, k);
        return grant(saying == 2 * current.matters ? NOTHING : saying);
    }

    public int says(int k, int m) {
        if (!isHidden(k) || !isMatter(m)) {
            return refuse(NO_SUCH);
        }
        fillings.find(current, order);
        int not = k * SAYINGS + 2 * m;
        return grant(fillings.often[not] + fillings.often[not + 1]);
    }

    public int ask() {
        if (noLetter()) {
            return refuse(NO_SUCH);
        }
        fillings.find(current, order);
        return grant(fillings.lineToAsk());
    }

    public int askLeaves() {
        if (noLetter()) {
            return refuse(NO_SUCH);
        }
        fillings.find(current, order);
        int k = fillings.lineToAsk();
        return grant(k == NOTHING ? NOTHING : fillings.mostLeft(k));
    }

    public int judge() {
        if (noLetter()) {
            return refuse(NO_SUCH);
        }
        Page page = current.page;
        int read = page.read();
        for (int m = 0; m < current.matters; m++) {
            int told = current.told[m];
            if (told != NONE && told != order.outcome(page.placesOf(m, read), page.dosOf(m, read))) {
                return grant(m);
            }
        }
        return grant(NOTHING);
    }

    // ---- a king, a chancellor

    public int foot(int ink, boolean king, boolean chancellor, boolean ofOther) {
        if (noLetter()) {
            refuse(NO_SUCH);
            return NO_FOOT;
        }
        if (!isInk(ink)) {
            refuse(NUMBER);
            return NO_FOOT;
        }
        return grant(ofOther ? footOf(ink, chancellor, king) : footOf(ink, king, chancellor));
    }

    public int rests(int ink) {
        if (noLetter()) {
            return refuse(NO_SUCH);
        }
        if (!isInk(ink)) {
            return refuse(NUMBER);
        }
        int many = 0;
        for (int pair = 0; pair < 4; pair++) {
            if (isRest(ink, pair >= 2, pair % 2 == 1)) {
                many++;
            }
        }
        return grant(many);
    }

    public int rest(int ink) {
        if (noLetter()) {
            return refuse(NO_SUCH);
        }
        if (!isInk(ink)) {
            return refuse(NUMBER);
        }
        for (int pair = 0; pair < 4; pair++) {
            if (isRest(ink, pair >= 2, pair % 2 == 1)) {
                return grant(10 * (pair / 2) + pair % 2);
            }
        }
        return grant(NOTHING);
    }

    // ---- wet thumbs

    public long odds(int m, boolean lower) {
        if (!isMatter(m)) {
            return refuse(NO_SUCH);
        }
        grant(0);
        return partOf(chance(m, NONE), raised(100, countRead(m)), lower);
    }

    public long standOdds(int k, boolean lower) {
        if (!isLine(k)) {
            return refuse(NO_SUCH);
        }
        grant(0);
        int m = now.matter[k];
        return partOf(chance(m, k), raised(100, countRead(m)), lower);
    }

    public long mean(boolean lower) {
        if (noLetter()) {
            return refuse(NO_SUCH);
        }
        grant(0);
        int all = Integer.bitCount(now.read());
        long sum = 0;
        for (int m = 0; m < current.matters; m++) {
            sum += chance(m, NONE) * raised(100, all - countRead(m));
        }
        return partOf(sum, raised(100, all), lower);
    }

    public int thumbs(int m, int seed, int n) {
        if (!isMatter(m)) {
            return refuse(NO_SUCH);
        }
        if (!isThumbs(seed, n)) {
            return refuse(NUMBER);
        }
        return grant(verdict(m, now.read() & ~smudge(seed, n)));
    }

    public int smudged(int seed, int n) {
        if (noLetter()) {
            return refuse(NO_SUCH);
        }
        if (!isThumbs(seed, n)) {
            return refuse(NUMBER);
        }
        return grant(Integer.bitCount(smudge(seed, n)));
    }

    // ---- acts

    public int write(int h, int p, int m, boolean say, int inches) {
        if (!isHand(h) || !isPlace(p) || !isMatter(m)) {
            return refuse(NO_SUCH);
        }
        if (inches < 1 || inches > MOST_INCHES) {
            return refuse(NUMBER);
        }
        if ((now.folded >> p & 1) == 1) {
            return refuse(NOT_SO);
        }
        if (inches > roomAt(p) || now.count >= LINES) {
            return refuse(NO_ROOM);
        }
        now.add(h, p, m, say ? 1 : 0, inches);
        past.keep(WROTE, now.count - 1);
        return grant(now.count - 1);
    }

    public boolean strike(int k) {
        if (!isLine(k)) {
            refuse(NO_SUCH);
            return false;
        }
        if ((now.struck >> k & 1) == 1) {
            refuse(NOT_SO);
            return false;
        }
        now.struck |= 1 << k;
        past.keep(STRUCK, k);
        grant(0);
        return true;
    }

    public int fold(int p) {
        if (!isPlace(p)) {
            return refuse(NO_SUCH);
        }
        now.folded ^= 1 << p;
        past.keep(FOLDED, p);
        return grant(now.folded >> p & 1);
    }

    public boolean undo() {
        if (past.count == 0) {
            refuse(NONE_LEFT);
            return false;
        }
        past.count--;
        int act = past.kind[past.count];
        int of = past.of[past.count];
        if (act == WROTE) {
            now.count = of;
        } else if (act == STRUCK) {
            now.struck &= ~(1 << of);
        } else {
            now.folded ^= 1 << of;
        }
        grant(0);
        return true;
    }

    public int image() {
        if (noLetter()) {
            return refuse(NO_SUCH);
        }
        if (imageCount >= IMAGES) {
            return refuse(NO_ROOM);
        }
        images[imageCount].copyFrom(now);
        imageCount++;
        return grant(imageCount - 1);
    }

    public boolean back(int image) {
        if (image < 0 || image >= imageCount) {
            refuse(NO_SUCH);
            return false;
        }
        now.copyFrom(images[image]);
        past.count = 0;
        grant(0);
        return true;
    }

    // ---- what is told

    public int led(int i) throws NoSuchElementException {
        int read = now.read();
        int met = 0;
        for (int m = 0; m < current.matters; m++) {
            if (verdict(m, read) == NOTHING) {
                if (met == i) {
                    return m;
                }
                met++;
            }
        }
        throw new NoSuchElementException();
    }

    public int size(int what) {
        switch (what) {
            case 0:
                return current.wet;
            case 1:
                return current.places;
            case 2:
                return current.overs;
            case 3:
                return current.hands;
            case 4:
                return current.matters;
            case 5:
                return now.count;
            case 6:
                return current.hidden;
            case 7:
                return current.dones;
            case 8:
                return current.bids.count;
            case 9:
                return past.count;
            case 10:
                return imageCount;
            case 11:
                return reader.tape.size;
            default:
                return NONE;
        }
    }

    public int trouble() {
        return trouble;
    }

    // ---- what the calls share

    private int refuse(int why) {
        trouble = why;
        return NONE;
    }

    private int grant(int answer) {
        trouble = NO_TROUBLE;
        return answer;
    }

    // Each letter that was read has a place, so that one without is the one of a new object.
    private boolean noLetter() {
        return current.places == 0;
    }

    private boolean isPlace(int p) {
        return p >= 0 && p < current.places;
    }

    private boolean isHand(int h) {
        return h >= 0 && h < current.hands;
    }

    private boolean isMatter(int m) {
        return m >= 0 && m < current.matters;
    }

    private boolean isLine(int k) {
        return k >= 0 && k < now.count;
    }

    private boolean isHidden(int k) {
        return k >= 0 && k < current.hidden;
    }

    private static boolean isInk(int ink) {
        return ink >= 0 && ink <= MOST_INK;
    }

    private static boolean isThumbs(int seed, int n) {
        return seed >= 0 && seed < SEEDS && n >= 0 && n <= MOST_THUMBS;
    }

    private int roomAt(int p) {
        return current.inches[p] - now.inchesAt(p);
    }

    private int openPlaces() {
        int open = 0;
        for (int p = 0; p < current.places; p++) {
            if ((now.folded >> p & 1) == 0 && roomAt(p) > 0) {
                open |= 1 << p;
            }
        }
        return open;
    }

    // DONE, if just those lines were read.
    private int verdict(int m, int lines) {
        return order.outcome(now.placesOf(m, lines), now.dosOf(m, lines));
    }

    private int verdictOfFirst(int m, int n) {
        return verdict(m, now.read() & (1 << n) - 1);
    }

    // The line of a matter that stands, if just those lines were read.
    private int standing(int m, int lines) {
        int p = order.unbeaten(now.placesOf(m, lines));
        return p == NONE ? NOTHING : now.latestAt(p, m, lines);
    }

    private int ruledBy(int h) {
        int read = now.read();
        int ruled = 0;
        for (int m = 0; m < current.matters; m++) {
            int k = standing(m, read);
            if (k != NOTHING && now.hand[k] == h) {
                ruled |= 1 << m;
            }
        }
        return ruled;
    }

    private int beaters(int k) {
        int read = now.read();
        if ((read >> k & 1) == 0) {
            return 0;
        }
        int beaters = 0;
        for (int j = 0; j < now.count; j++) {
            boolean same = (read >> j & 1) == 1 && now.matter[j] == now.matter[k];
            boolean later = now.place[j] == now.place[k] && j > k;
            if (same && (later || (order.below[now.place[j]] >> now.place[k] & 1) == 1)) {
                beaters |= 1 << j;
            }
        }
        return beaters;
    }

    // How many matters would be otherwise, were those lines struck.
    private int turnedWithout(int lines) {
        int read = now.read();
        int turned = 0;
        for (int m = 0; m < current.matters; m++) {
            if (verdict(m, read & ~lines) != verdict(m, read)) {
                turned++;
            }
        }
        return turned;
    }

    private int leastTurn(int m) {
        int read = now.read();
        int of = read & now.linesOf(m);
        int is = verdict(m, read);
        int best = NOTHING;
        int fewest = LINES + 1;
        // Lines of other matters turn nothing, so the fewest never have one.
        for (int struck = 1; struck <= of; struck++) {
            if ((struck & ~of) == 0 && Integer.bitCount(struck) < fewest
                    && verdict(m, read & ~struck) != is) {
                fewest = Integer.bitCount(struck);
                best = struck;
            }
        }
        return best;
    }

    private void setDuelRooms() {
        int open = openPlaces();
        for (int p = 0; p < PLACES; p++) {
            duel.room[p] = (open >> p & 1) == 1 ? roomAt(p) : 0;
        }
    }

    private int bestBids(int without) {
        Bids bids = current.bids;
        int best = 0;
        for (int some = 1; some < 1 << bids.count; some++) {
            if ((some & without) == 0 && bids.paysOf(some) > bids.paysOf(best) && canTake(some)) {
                best = some;
            }
        }
        return best;
    }

    private boolean canTake(int some) {
        for (int p = 0; p < current.places; p++) {
            if (current.bids.inchesAt(p, some) > roomAt(p)) {
                return false;
            }
        }
        for (int h = 0; h < current.hands; h++) {
            if (current.bids.paysBy(h, some) > current.purse[h]) {
                return false;
            }
        }
        return true;
    }

    private static int footOf(int ink, boolean own, boolean other) {
        if (own) {
            return other ? 1 : 4 - ink;
        }
        return other ? 0 : 3;
    }

    private static boolean isRest(int ink, boolean king, boolean chancellor) {
        return footOf(ink, king, chancellor) >= footOf(ink, !king, chancellor)
                && footOf(ink, chancellor, king) >= footOf(ink, !chancellor, king);
    }

    private int countRead(int m) {
        return Integer.bitCount(now.read() & now.linesOf(m));
    }

    // How likely line k stands, or a matter is done where k is NONE: the upper part over 100 to the
    // power of countRead(m), which is 10 to the 16th at most.
    private long chance(int m, int k) {
        int of = now.read() & now.linesOf(m);
        long sum = 0;
        for (int dry = 0; dry <= of; dry++) {
            if ((dry & ~of) == 0 && (k == NONE ? verdict(m, dry) == 1 : standing(m, dry) == k)) {
                int wetLines = Integer.bitCount(of & ~dry);
                sum += raised(current.wet, wetLines) * raised(100 - current.wet, Integer.bitCount(dry));
            }
        }
        return sum;
    }

    private static long raised(long base, int times) {
        long product = 1;
        for (int i = 0; i < times; i++) {
            product *= base;
        }
        return product;
    }

    private static long partOf(long upper, long lower, boolean ofLower) {
        long divisor = lower;
        long rest = upper;
        for (int i = 0; i < 200 && rest != 0; i++) {
            long next = divisor % rest;
            divisor = rest;
            rest = next;
        }
        if (divisor == 0) {
            return NONE;
        }
        return (ofLower ? lower : upper) / divisor;
    }

    private int smudge(int seed, int n) {
        int draw = seed;
        int wetLines = 0;
        for (int i = 0; i < n; i++) {
            draw = (75 * draw + 74) % SEEDS;
            if (draw % 100 < current.wet && now.count > 0) {
                draw = (75 * draw + 74) % SEEDS;
                wetLines |= 1 << draw % now.count;
            }
        }
        return wetLines;
    }

    /** What is told by the text; a new one is empty. */
    private static final class Letter {
        final int[] rank = new int[PLACES];
        final int[] inches = new int[PLACES];
        final int[] upper = new int[OVERS];
        final int[] lower = new int[OVERS];
        final int[] purse = new int[HANDS];
        // What done tells of a matter, NONE where it tells nothing.
        final int[] told = new int[MATTERS];
        final int[] hiddenAt = new int[HIDDEN];
        final Page page = new Page();
        final Bids bids = new Bids();
        int wet;
        int places;
        int overs;
        int hands;
        int matters;
        int hidden;
        int dones;

        void empty() {
            page.empty();
            bids.count = 0;
            wet = 0;
            places = 0;
            overs = 0;
            hands = 0;
            matters = 0;
            hidden = 0;
            dones = 0;
        }

        boolean hasRank(int rankTold) {
            for (int p = 0; p < places; p++) {
                if (rank[p] == rankTold) {
                    return true;
                }
            }
            return false;
        }

        boolean hasOver(int p, int q) {
            for (int i = 0; i < overs; i++) {
                if (upper[i] == p && lower[i] == q || upper[i] == q && lower[i] == p) {
                    return true;
                }
            }
            return false;
        }
    }

    /** The lines as they lie, and what is struck and folded. */
    private static final class Page {
        final int[] hand = new int[LINES];
        final int[] place = new int[LINES];
        final int[] matter = new int[LINES];
        final int[] say = new int[LINES];
        final int[] inches = new int[LINES];
        int count;
        int struck;
        int folded;

        void empty() {
            count = 0;
            struck = 0;
            folded = 0;
        }

        void copyFrom(Page other) {
            for (int k = 0; k < other.count; k++) {
                hand[k] = other.hand[k];
                place[k] = other.place[k];
                matter[k] = other.matter[k];
                say[k] = other.say[k];
                inches[k] = other.inches[k];
            }
            count = other.count;
            struck = other.struck;
            folded = other.folded;
        }

        void add(int h, int p, int m, int saying, int room) {
            if (count >= LINES) {
                return;
            }
            hand[count] = h;
            place[count] = p;
            matter[count] = m;
            say[count] = saying;
            inches[count] = room;
            count++;
        }

        int read() {
            int lines = 0;
            for (int k = 0; k < count; k++) {
                if ((struck >> k & 1) == 0 && (folded >> place[k] & 1) == 0) {
                    lines |= 1 << k;
                }
            }
            return lines;
        }

        int linesAt(int p) {
            int lines = 0;
            for (int k = 0; k < count; k++) {
                if (place[k] == p) {
                    lines |= 1 << k;
                }
            }
            return lines;
        }

        int linesBy(int h) {
            int lines = 0;
            for (int k = 0; k < count; k++) {
                if (hand[k] == h) {
                    lines |= 1 << k;
                }
            }
            return lines;
        }

        int linesOf(int m) {
            int lines = 0;
            for (int k = 0; k < count; k++) {
                if (matter[k] == m) {
                    lines |= 1 << k;
                }
            }
            return lines;
        }

        int inchesAt(int p) {
            int sum = 0;
            for (int k = 0; k < count; k++) {
                if (place[k] == p) {
                    sum += inches[k];
                }
            }
            return sum;
        }

        // Places at which some of the lines speak of a matter.
        int placesOf(int m, int lines) {
            int places = 0;
            for (int k = 0; k < count; k++) {
                if ((lines >> k & 1) == 1 && matter[k] == m) {
                    places |= 1 << place[k];
                }
            }
            return places;
        }

        // Those of them at which the latest such line says do.
        int dosOf(int m, int lines) {
            int dos = 0;
            for (int k = 0; k < count; k++) {
                if ((lines >> k & 1) == 1 && matter[k] == m) {
                    int bit = 1 << place[k];
                    dos = say[k] == 1 ? dos | bit : dos & ~bit;
                }
            }
            return dos;
        }

        int latestAt(int p, int m, int lines) {
            for (int k = count - 1; k >= 0; k--) {
                if ((lines >> k & 1) == 1 && matter[k] == m && place[k] == p) {
                    return k;
                }
            }
            return NOTHING;
        }
    }

    /** Bids as told. */
    private static final class Bids {
        final int[] hand = new int[BIDS];
        final int[] place = new int[BIDS];
        final int[] inches = new int[BIDS];
        final int[] pays = new int[BIDS];
        int count;

        void add(int h, int p, int room, int pay) {
            if (count >= BIDS) {
                return;
            }
            hand[count] = h;
            place[count] = p;
            inches[count] = room;
            pays[count] = pay;
            count++;
        }

        int paysOf(int some) {
            int sum = 0;
            for (int b = 0; b < count; b++) {
                if ((some >> b & 1) == 1) {
                    sum += pays[b];
                }
            }
            return sum;
        }

        int paysBy(int h, int some) {
            int sum = 0;
            for (int b = 0; b < count; b++) {
                if ((some >> b & 1) == 1 && hand[b] == h) {
                    sum += pays[b];
                }
            }
            return sum;
        }

        int inchesAt(int p, int some) {
            int sum = 0;
            for (int b = 0; b < count; b++) {
                if ((some >> b & 1) == 1 && place[b] == p) {
                    sum += inches[b];
                }
            }
            return sum;
        }
    }

    /** Which place outranks which: of each two it is just one, as ranks are unlike. */
    private static final class Order {
        final int[] below = new int[PLACES];
        int count;

        void arrange(Letter letter, int dropped) {
            count = letter.places;
            for (int p = 0; p < count; p++) {
                below[p] = 0;
                for (int q = 0; q < count; q++) {
                    if (letter.rank[p] > letter.rank[q]) {
                        below[p] |= 1 << q;
                    }
                }
            }
            for (int i = 0; i < letter.overs; i++) {
                if ((dropped >> i & 1) == 0) {
                    int p = letter.upper[i];
                    int q = letter.lower[i];
                    below[p] |= 1 << q;
                    below[q] &= ~(1 << p);
                }
            }
        }

        // The one of some places that outranks all others of them, or NONE.
        int unbeaten(int places) {
            for (int p = 0; p < count; p++) {
                int bit = 1 << p;
                if ((places & bit) != 0 && (places & ~bit & ~below[p]) == 0) {
                    return p;
                }
            }
            return NONE;
        }

        // DONE of a matter with lines at some places, of which the latest at dos say do.
        int outcome(int places, int dos) {
            int p = unbeaten(places);
            return p == NONE ? NOTHING : dos >> p & 1;
        }

        // A place on any ring is on one of three: of each two places one outranks the other, and so
        // a longer ring has a short cut that leaves a shorter ring through the place.
        int secondOfRing(int p) {
            for (int q = 0; q < count; q++) {
                if ((below[p] >> q & 1) == 1 && thirdOfRing(p, q) != NONE) {
                    return q;
                }
            }
            return NONE;
        }

        int thirdOfRing(int p, int q) {
            for (int r = 0; r < count; r++) {
                if ((below[q] >> r & 1) == 1 && (below[r] >> p & 1) == 1) {
                    return r;
                }
            }
            return NONE;
        }

        boolean hasRing() {
            for (int p = 0; p < count; p++) {
                if (secondOfRing(p) != NONE) {
                    return true;
                }
            }
            return false;
        }
    }

    /** Two who write by turns; room is what open places have, none at the others. */
    private static final class Duel {
        final int[] room = new int[PLACES];

        // Whether the one gets it done; left is the depth that is left, at most MOVES.
        private boolean wonByOne(Order order, int places, int dos, int left, boolean one) {
            if (left <= 0) {
                return order.outcome(places, dos) == 1;
            }
            if (wonByOne(order, places, dos, left - 1, !one) == one) {
                return one;
            }
            for (int p = 0; p < PLACES; p++) {
                if (room[p] > 0 && wonBehind(order, places, dos, left, one, p) == one) {
                    return one;
                }
            }
            return !one;
        }

        private boolean wonBehind(Order order, int places, int dos, int left, boolean one, int p) {
            int bit = 1 << p;
            room[p]--;
            boolean won = wonByOne(order, places | bit, one ? dos | bit : dos & ~bit, left - 1, !one);
            room[p]++;
            return won;
        }

        int firstMove(Order order, int places, int dos, int left) {
            if (wonByOne(order, places, dos, left - 1, false)) {
                return NOTHING;
            }
            for (int p = 0; p < PLACES; p++) {
                if (room[p] > 0 && wonBehind(order, places, dos, left, true, p)) {
                    return p;
                }
            }
            return NOTHING;
        }
    }

    /**
     * Fillings of the hidden lines that fit. Each is a number whose digits are what the lines say, the
     * first line's the highest, blank the highest of a line, so that numbers come in the order due.
     */
    private static final class Fillings {
        final int[] fit = new int[FILLINGS];
        // For each line in turn, by how many fillings that fit it says each thing.
        final int[] often = new int[HIDDEN * SAYINGS];
        final int[] toldPlaces = new int[MATTERS];
        final int[] toldDos = new int[MATTERS];
        final int[] places = new int[MATTERS];
        final int[] dos = new int[MATTERS];
        boolean known;
        int count;
        int lines;
        int sayings;

        // Nothing that is done later counts for them, so that once a letter is enough.
        void find(Letter letter, Order order) {
            if (known) {
                return;
            }
            known = true;
            count = 0;
            lines = letter.hidden;
            sayings = 2 * letter.matters + 1;
            Arrays.fill(often, 0);
            int read = letter.page.read();
            for (int m = 0; m < letter.matters; m++) {
                toldPlaces[m] = letter.page.placesOf(m, read);
                toldDos[m] = letter.page.dosOf(m, read);
            }
            int all = stepOf(NONE);
            for (int f = 0; f < all && f < FILLINGS; f++) {
                fill(letter, f);
                if (isAsTold(letter, order)) {
                    keep(f);
                }
            }
        }

        // By how much a number grows if line k says the next thing; of NONE how many numbers there are.
        private int stepOf(int k) {
            int step = 1;
            for (int i = k + 1; i < lines; i++) {
                step *= sayings;
            }
            return step;
        }

        private int digit(int f, int k) {
            int step = stepOf(k);
            return step > 0 && sayings > 0 ? f / step % sayings : 0;
        }

        private void fill(Letter letter, int f) {
            for (int m = 0; m < letter.matters; m++) {
                places[m] = toldPlaces[m];
                dos[m] = toldDos[m];
            }
            for (int k = 0; k < lines; k++) {
                int saying = digit(f, k);
                int m = saying / 2;
                int bit = 1 << letter.hiddenAt[k];
                if (m < letter.matters) {
                    places[m] |= bit;
                    dos[m] = saying % 2 == 1 ? dos[m] | bit : dos[m] & ~bit;
                }
            }
        }

        private boolean isAsTold(Letter letter, Order order) {
            for (int m = 0; m < letter.matters; m++) {
                int told = letter.told[m];
                if (told != NONE && told != order.outcome(places[m], dos[m])) {
                    return false;
                }
            }
            return true;
        }

        private void keep(int f) {
            fit[count] = f;
            count++;
            for (int k = 0; k < lines; k++) {
                often[k * SAYINGS + digit(f, k)]++;
            }
        }

        int saying(int i, int k) {
            return i >= 0 && i < count ? digit(fit[i], k) : 0;
        }

        int mostLeft(int k) {
            int most = 0;
            for (int saying = 0; saying < sayings; saying++) {
                most = Math.max(most, often[k * SAYINGS + saying]);
            }
            return most;
        }

        int lineToAsk() {
            int best = NOTHING;
            int least = FILLINGS + 1;
            for (int k = 0; k < lines && count > 0; k++) {
                int most = mostLeft(k);
                if (most < least) {
                    least = most;
                    best = k;
                }
            }
            return best;
        }
    }

    /** The latest acts, so that they can be undone. */
    private static final class Past {
        final int[] kind = new int[KEPT_ACTS];
        final int[] of = new int[KEPT_ACTS];
        int count;

        void keep(int act, int what) {
            if (count >= KEPT_ACTS) {
                for (int i = 1; i < KEPT_ACTS; i++) {
                    kind[i - 1] = kind[i];
                    of[i - 1] = of[i];
                }
                count = KEPT_ACTS - 1;
            }
            kind[count] = act;
            of[count] = what;
            count++;
        }
    }

    /** The bytes that were fed, and the token at hand. */
    private static final class Tape {
        static final int END = 0;
        static final int WORD = 1;
        static final int WHOLE = 2;
        static final int PART = 3;
        static final int BAD = 4;
        static final int LONGEST_WORD = 8;
        static final int LONGEST_WHOLE = 3;

        final byte[] bytes = new byte[TAPE];
        int size;
        int end;
        int from;
        int to;
        int kind;
        int number;

        void append(int four) {
            for (int shift = 24; shift >= 0; shift -= 8) {
                if (size < TAPE) {
                    bytes[size] = (byte) (four >> shift);
                    size++;
                }
            }
        }

        void start(int n) {
            end = n;
            to = 0;
            next();
        }

        void next() {
            from = to;
            while (from < end && bytes[from] == ' ') {
                from++;
            }
            to = from;
            if (from >= end) {
                kind = END;
            } else if (isSmall(from)) {
                readWord();
            } else if (isDigit(from)) {
                readWhole();
            } else {
                kind = bytes[from] == ';' ? PART : BAD;
                to++;
            }
        }

        private boolean isSmall(int at) {
            return bytes[at] >= 'a' && bytes[at] <= 'z';
        }

        private boolean isDigit(int at) {
            return bytes[at] >= '0' && bytes[at] <= '9';
        }

        private void readWord() {
            while (to < end && isSmall(to)) {
                to++;
            }
            kind = to - from <= LONGEST_WORD ? WORD : BAD;
        }

        private void readWhole() {
            number = 0;
            while (to < end && isDigit(to)) {
                number = 10 * number + bytes[to] - '0';
                to++;
            }
            kind = to - from <= LONGEST_WHOLE ? WHOLE : BAD;
        }

        boolean isWord(String word) {
            if (kind != WORD || to - from != word.length()) {
                return false;
            }
            for (int i = 0; i < word.length(); i++) {
                if (bytes[from + i] != word.charAt(i)) {
                    return false;
                }
            }
            return true;
        }

        boolean isSame(int otherFrom, int length) {
            if (to - from != length) {
                return false;
            }
            for (int i = 0; i < length; i++) {
                if (bytes[from + i] != bytes[otherFrom + i]) {
                    return false;
                }
            }
            return true;
        }
    }

    /** Names that were told, by where they stand on the tape. */
    private static final class Names {
        static final int ROOM = PLACES + HANDS + MATTERS;

        final int[] from = new int[ROOM];
        final int[] length = new int[ROOM];
        final int[] sort = new int[ROOM];
        final int[] number = new int[ROOM];
        int count;

        int indexOf(Tape tape) {
            for (int i = 0; i < count; i++) {
                if (tape.isSame(from[i], length[i])) {
                    return i;
                }
            }
            return NONE;
        }

        void add(Tape tape, int nameSort, int nameNumber) {
            if (count >= ROOM) {
                return;
            }
            from[count] = tape.from;
            length[count] = tape.to - tape.from;
            sort[count] = nameSort;
            number[count] = nameNumber;
            count++;
        }
    }

    /** Reads a letter from the left, token by token; the first fault ends it. */
    private static final class Reader {
        // The words that begin a line; no name is one of them.
        static final int NO_LINE = 0;
        static final int LETTER = 1;
        static final int PLACE = 2;
        static final int OVER = 3;
        static final int HAND = 4;
        static final int MATTER = 5;
        static final int WROTE_LINE = 6;
        static final int HIDDEN_LINE = 7;
        static final int DONE = 8;
        static final int BID = 9;

        final Tape tape = new Tape();
        final Names names = new Names();
        Letter draft = new Letter();
        int fault;
        int faultAt;

        void readFirst(int n) {
            draft.empty();
            names.count = 0;
            fault = 0;
            faultAt = NONE;
            tape.start(n);
            boolean good = readHead();
            for (int i = 0; i < TAPE && good && tape.kind == Tape.PART; i++) {
                tape.next();
                good = readLine();
            }
            if (good && tape.kind != Tape.END) {
                blame(FORM);
            } else if (good && draft.places == 0) {
                blame(LACKS);
            }
        }

        private boolean blame(int why) {
            return blameAt(why, tape.from);
        }

        private boolean blameAt(int why, int at) {
            fault = why;
            faultAt = at;
            return false;
        }

        private int lineWord() {
            if (tape.isWord("letter")) {
                return LETTER;
            } else if (tape.isWord("place")) {
                return PLACE;
            } else if (tape.isWord("over")) {
                return OVER;
            } else if (tape.isWord("hand")) {
                return HAND;
            } else if (tape.isWord("matter")) {
                return MATTER;
            } else if (tape.isWord("wrote")) {
                return WROTE_LINE;
            } else if (tape.isWord("hidden")) {
                return HIDDEN_LINE;
            } else if (tape.isWord("done")) {
                return DONE;
            }
            return tape.isWord("bid") ? BID : NO_LINE;
        }

        private boolean readHead() {
            int word = lineWord();
            if (word != LETTER) {
                return blame(word == NO_LINE ? FORM : LACKS);
            }
            tape.next();
            if (!passWord("wet") || !isWhole(0, 100)) {
                return false;
            }
            draft.wet = passNumber();
            return true;
        }

        private boolean readLine() {
            switch (lineWord()) {
                case LETTER:
                    return blame(AGAIN);
                case PLACE:
                    return readPlace();
                case OVER:
                    return readOver();
                case HAND:
                    return readHand();
                case MATTER:
                    return readMatter();
                case WROTE_LINE:
                    return readWrote();
                case HIDDEN_LINE:
                    return readHidden();
                case DONE:
                    return readDone();
                case BID:
                    return readBid();
                default:
                    return blame(FORM);
            }
        }

        private boolean readPlace() {
            int p = draft.places;
            if (p >= PLACES) {
                return blame(MANY);
            }
            tape.next();
            if (!passNewName(PLACE, p) || !passWord("rank") || !isWhole(0, 99)) {
                return false;
            }
            if (draft.hasRank(tape.number)) {
                return blame(AGAIN);
            }
            draft.rank[p] = passNumber();
            if (!passWord("room") || !isWhole(1, MOST_INCHES)) {
                return false;
            }
            draft.inches[p] = passNumber();
            draft.places++;
            return true;
        }

        private boolean readOver() {
            int i = draft.overs;
            if (i >= OVERS) {
                return blame(MANY);
            }
            tape.next();
            int p = passName(PLACE);
            if (p == NONE) {
                return false;
            }
            int at = tape.from;
            int q = passName(PLACE);
            if (q == NONE) {
                return false;
            }
            if (p == q || draft.hasOver(p, q)) {
                return blameAt(AGAIN, at);
            }
            draft.upper[i] = p;
            draft.lower[i] = q;
            draft.overs++;
            return true;
        }

        private boolean readHand() {
            int h = draft.hands;
            if (h >= HANDS) {
                return blame(MANY);
            }
            tape.next();
            if (!passNewName(HAND, h) || !passWord("purse") || !isWhole(0, 99)) {
                return false;
            }
            draft.purse[h] = passNumber();
            draft.hands++;
            return true;
        }

        private boolean readMatter() {
            int m = draft.matters;
            if (m >= MATTERS) {
                return blame(MANY);
            }
            tape.next();
            if (!passNewName(MATTER, m)) {
                return false;
            }
            draft.told[m] = NONE;
            draft.matters++;
            return true;
        }

        private boolean readWrote() {
            if (draft.page.count >= LINES) {
                return blame(MANY);
            }
            tape.next();
            int h = passName(HAND);
            int p = h == NONE ? NONE : passName(PLACE);
            int m = p == NONE ? NONE : passName(MATTER);
            if (m == NONE) {
                return false;
            }
            int say = sayAtHand();
            if (say == NONE) {
                return blame(FORM);
            }
            tape.next();
            if (!passWord("inches") || !isWhole(1, MOST_INCHES)) {
                return false;
            }
            if (tape.number > draft.inches[p] - draft.page.inchesAt(p)) {
                return blame(FULL);
            }
            draft.page.add(h, p, m, say, passNumber());
            return true;
        }

        private boolean readHidden() {
            int k = draft.hidden;
            if (k >= HIDDEN) {
                return blame(MANY);
            }
            tape.next();
            int p = passName(PLACE);
            if (p == NONE) {
                return false;
            }
            draft.hiddenAt[k] = p;
            draft.hidden++;
            return true;
        }

        private boolean readDone() {
            tape.next();
            int at = tape.from;
            int m = passName(MATTER);
            if (m == NONE) {
                return false;
            }
            if (draft.told[m] != NONE) {
                return blameAt(AGAIN, at);
            }
            int told = tape.isWord("doubt") ? NOTHING : sayAtHand();
            if (told == NONE) {
                return blame(FORM);
            }
            tape.next();
            draft.told[m] = told;
            draft.dones++;
            return true;
        }

        private boolean readBid() {
            if (draft.bids.count >= BIDS) {
                return blame(MANY);
            }
            tape.next();
            int h = passName(HAND);
            int p = h == NONE ? NONE : passName(PLACE);
            if (p == NONE || !passWord("inches") || !isWhole(1, MOST_INCHES)) {
                return false;
            }
            int inches = passNumber();
            if (!passWord("pays") || !isWhole(0, 99)) {
                return false;
            }
            draft.bids.add(h, p, inches, passNumber());
            return true;
        }

        private boolean passWord(String word) {
            if (!tape.isWord(word)) {
                return blame(FORM);
            }
            tape.next();
            return true;
        }

        private boolean isWhole(int least, int most) {
            if (tape.kind != Tape.WHOLE) {
                return blame(FORM);
            }
            return tape.number >= least && tape.number <= most || blame(BOUNDS);
        }

        private int passNumber() {
            int number = tape.number;
            tape.next();
            return number;
        }

        private int sayAtHand() {
            if (tape.isWord("do")) {
                return 1;
            }
            return tape.isWord("not") ? 0 : NONE;
        }

        private boolean passNewName(int sort, int number) {
            if (tape.kind != Tape.WORD || lineWord() != NO_LINE) {
                return blame(FORM);
            }
            if (names.indexOf(tape) != NONE) {
                return blame(AGAIN);
            }
            names.add(tape, sort, number);
            tape.next();
            return true;
        }

        // The number of the name at hand; NONE, and a fault, if it isn't one of that sort.
        private int passName(int sort) {
            if (tape.kind != Tape.WORD || lineWord() != NO_LINE) {
                blame(FORM);
                return NONE;
            }
            int i = names.indexOf(tape);
            if (i == NONE || names.sort[i] != sort) {
                blame(UNTOLD);
                return NONE;
            }
            tape.next();
            return names.number[i];
        }
    }
}
