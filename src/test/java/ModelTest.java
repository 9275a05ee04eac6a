import java.util.ArrayList;
import java.util.List;
import java.util.Random;

/** Random letters and acts, each answer held against the model's; then any numbers at all, which must never throw. */
public final class ModelTest {
    private static final String[] WORDS = {"letter", "place", "over", "hand", "matter", "wrote", "hidden", "done", "bid", "wet", "rank", "room", "purse",
        "inches", "pays", "do", "not", "doubt", "a", "b", "c", "d", "e", "f", "h", "i", "j", "k", "m", "n", "o", "s", "abcdefgh", "abcdefghi",
        "0", "1", "2", "9", "10", "99", "100", "101", "007", "1000", ";", ";;", "A", "-", "", " ", "\t", "\u00e9", "\0"};

    private static int trouble;
    private static int letters;
    private static int faults;

    public static void main(String[] args) {
        Random random = new Random(20261118);
        for (int i = 0; i < 30000; i++) {
            text(random);
        }
        for (int i = 0; i < 400; i++) {
            run(new Random(i));
        }
        for (int i = 0; i < 200; i++) {
            anyNumbers(new Random(1000 + i));
        }
        for (int i = 0; i < 150; i++) {
            lettersOfOne(new Random(2000 + i));
        }
        System.out.println("texts: " + letters + " letters, " + faults + " faults");
        Check.end("ModelTest");
    }

    // ---- texts

    private static String pick(Random random, String... some) {
        return some[random.nextInt(some.length)];
    }

    private static List<String> letter(Random random) {
        List<String> tokens = new ArrayList<>(List.of("letter", "wet", "" + pick(random, "0", "100", "50", "33", "7", "90")));
        int places = 1 + random.nextInt(6);
        int hands = random.nextInt(5);
        int matters = random.nextInt(5);
        int[] room = new int[places];
        List<Integer> ranks = new ArrayList<>();
        for (int r = 0; r < 100; r++) {
            ranks.add(r);
        }
        for (int p = 0; p < places; p++) {
            room[p] = 1 + random.nextInt(random.nextBoolean() ? 2 : 9);
            line(tokens, "place", "abcdef".charAt(p) + "", "rank", "" + ranks.remove(random.nextInt(ranks.size())), "room", "" + room[p]);
        }
        for (int h = 0; h < hands; h++) {
            line(tokens, "hand", "hijk".charAt(h) + "", "purse", "" + random.nextInt(random.nextBoolean() ? 20 : 100));
        }
        for (int m = 0; m < matters; m++) {
            line(tokens, "matter", "mnos".charAt(m) + "");
        }
        List<String> pairs = new ArrayList<>();
        for (int i = random.nextInt(9); i > 0 && pairs.size() < 6 && places > 1; i--) {
            int p = random.nextInt(places);
            int q = random.nextInt(places);
            String pair = Math.min(p, q) + " " + Math.max(p, q);
            if (p != q && !pairs.contains(pair)) {
                pairs.add(pair);
                line(tokens, "over", "abcdef".charAt(p) + "", "abcdef".charAt(q) + "");
            }
        }
        for (int i = random.nextInt(9); i > 0 && hands > 0 && matters > 0; i--) {
            int p = random.nextInt(places);
            if (room[p] > 0) {
                int inches = 1 + random.nextInt(Math.min(room[p], 2));
                room[p] -= inches;
                line(tokens, "wrote", "hijk".charAt(random.nextInt(hands)) + "", "abcdef".charAt(p) + "", "mnos".charAt(random.nextInt(matters)) + "",
                        pick(random, "do", "not"), "inches", "" + inches);
            }
        }
        for (int i = random.nextInt(4); i > 0; i--) {
            line(tokens, "hidden", "abcdef".charAt(random.nextInt(places)) + "");
        }
        for (int m = matters - 1; m >= 0; m--) {
            if (random.nextBoolean()) {
                line(tokens, "done", "mnos".charAt(m) + "", pick(random, "do", "not", "doubt"));
            }
        }
        for (int i = random.nextInt(7); i > 0 && hands > 0; i--) {
            line(tokens, "bid", "hijk".charAt(random.nextInt(hands)) + "", "abcdef".charAt(random.nextInt(places)) + "", "inches", "" + (1 + random.nextInt(3)),
                    "pays", "" + random.nextInt(30));
        }
        return tokens;
    }

    private static void line(List<String> tokens, String... more) {
        tokens.add(";");
        tokens.addAll(List.of(more));
    }

    private static String join(Random random, List<String> tokens, boolean gluing) {
        StringBuilder text = new StringBuilder();
        for (String token : tokens) {
            boolean glued = token.equals(";") || gluing && random.nextInt(20) == 0;
            text.append(glued ? "" : " ").append(token);
        }
        return text.length() > 900 ? text.substring(0, 900) : text.toString();
    }

    private static String spoiltText(Random random) {
        List<String> tokens = letter(random);
        int spoilt = random.nextInt(4);
        for (int i = 0; i < spoilt && !tokens.isEmpty(); i++) {
            int at = random.nextInt(tokens.size());
            switch (random.nextInt(5)) {
                case 0 -> tokens.remove(at);
                case 1 -> tokens.set(at, pick(random, WORDS));
                case 2 -> tokens.add(at, pick(random, WORDS));
                case 3 -> tokens.set(at, tokens.get(random.nextInt(tokens.size())));
                default -> {
                    int from = random.nextInt(tokens.size());
                    List<String> copy = new ArrayList<>(tokens.subList(from, Math.min(tokens.size(), from + 1 + random.nextInt(8))));
                    tokens.addAll(at, copy);
                }
            }
        }
        String text = join(random, tokens, random.nextInt(4) == 0);
        return random.nextInt(10) == 0 ? text.substring(0, random.nextInt(text.length() + 1)) : text;
    }

    private static void text(Random random) {
        String text = spoiltText(random);
        Model model = new Model();
        Model.Told told = model.parse(text);
        PostScripts x = new PostScripts();
        Check.due("letter <" + text + ">", Check.tell(x, text), told == null ? -1 : told.ranks.size());
        Check.due("fault <" + text + ">", x.fault(), model.fault);
        Check.due("where <" + text + ">", x.where(), model.faultAt);
        letters += told == null ? 0 : 1;
        faults += told == null ? 1 : 0;
        if (told != null) {
            int[] sizes = {told.wet, told.ranks.size(), told.overs.size(), told.purses.size(), told.matters, told.lines.size(), told.hidden.size(),
                told.done.size(), told.bids.size()};
            for (int i = 0; i < sizes.length; i++) {
                Check.due("size " + i + " <" + text + ">", x.size(i), sizes[i]);
            }
        }
    }

    // ---- runs

    private static void run(Random random) {
        PostScripts x = new PostScripts();
        Model m = new Model();
        String text = join(random, letter(random), false);
        Model.Told told = m.parse(text);
        Check.due("letter <" + text + ">", Check.tell(x, text), told == null ? -1 : told.ranks.size());
        if (told == null) {
            return;
        }
        m.take(told);
        int rounds = 1 + random.nextInt(25);
        for (int round = 0; round < rounds; round++) {
            all(x, m, random, text + " round " + round);
            for (int i = random.nextInt(5); i >= 0; i--) {
                act(x, m, random, text + " act");
            }
        }
    }

    /** One object reads letter behind letter: nothing of an older one, or of one with a fault, may be left. */
    private static void lettersOfOne(Random random) {
        PostScripts x = new PostScripts();
        Model m = new Model();
        for (int i = 0; i < 8; i++) {
            String text = spoiltText(random);
            String where = "letter " + i + " <" + text + ">";
            Model.Told told = m.parse(text);
            Check.due(where, Check.tell(x, text), told == null ? -1 : told.ranks.size());
            Check.due(where + " trouble", x.trouble(), told == null ? 4 : 0);
            Check.due(where + " fault", x.fault(), m.fault);
            Check.due(where + " where", x.where(), m.faultAt);
            Check.due(where + " tape", x.size(11), 0);
            if (told != null) {
                m.take(told);
            }
            for (int round = 0; round < 3 && m.t != null; round++) {
                int[] sizes = {m.t.wet, m.places(), m.t.overs.size(), m.hands(), m.matters(), m.lines(), m.t.hidden.size(), m.t.done.size(),
                    m.t.bids.size(), m.past.size(), m.images.size()};
                for (int what = 0; what < sizes.length; what++) {
                    Check.due(where + " size " + what, x.size(what), sizes[what]);
                }
                all(x, m, random, where + " round " + round);
                hidden(x, m, where + " round " + round);
                act(x, m, random, where + " act");
                act(x, m, random, where + " act");
            }
        }
    }

    private static boolean refused(boolean it, int why) {
        if (it) {
            trouble = why;
        }
        return it;
    }

    private static void act(PostScripts x, Model m, Random random, String where) {
        int kind = random.nextInt(10);
        trouble = 0;
        if (kind < 4) {
            int h = random.nextInt(5) - random.nextInt(2);
            int p = random.nextInt(m.places() + 1);
            int matter = random.nextInt(m.matters() + 1);
            int inches = random.nextInt(8) == 0 ? random.nextInt(12) : 1;
            int say = random.nextInt(2);
            boolean bad = refused(h < 0 || h >= m.hands() || p >= m.places() || matter >= m.matters(), 1)
                    || refused(inches < 1 || inches > 9, 2) || refused(m.now.folded().contains(p), 5)
                    || refused(m.room(m.now, p) < inches || m.lines() >= 8, 3);
            if (!bad) {
                m.act();
                m.now.lines().add(new Model.Line(h, p, matter, say, inches));
            }
            Check.due(where + " write", x.write(h, p, matter, say == 1, inches), bad ? -1 : m.lines() - 1);
        } else if (kind < 6) {
            int k = random.nextInt(9) - 1;
            boolean bad = refused(k < 0 || k >= m.lines(), 1) || refused(m.now.struck().contains(k), 5);
            if (!bad) {
                m.act();
                m.now.struck().add(k);
            }
            Check.due(where + " strike", x.strike(k), !bad);
        } else if (kind < 8) {
            int p = random.nextInt(m.places() + 1);
            boolean bad = refused(p >= m.places(), 1);
            if (!bad) {
                m.act();
                if (!m.now.folded().remove(p)) {
                    m.now.folded().add(p);
                }
            }
            Check.due(where + " fold", x.fold(p), bad ? -1 : m.place(p, 5));
        } else if (kind < 9) {
            boolean bad = refused(m.past.isEmpty(), 6);
            if (!bad) {
                m.now = m.past.removeLast();
            }
            Check.due(where + " undo", x.undo(), !bad);
        } else if (random.nextBoolean()) {
            boolean bad = refused(m.images.size() >= 3, 3);
            if (!bad) {
                m.images.add(m.now.copy());
            }
            Check.due(where + " image", x.image(), bad ? -1 : m.images.size() - 1);
        } else {
            int i = random.nextInt(4);
            boolean bad = refused(i >= m.images.size(), 1);
            if (!bad) {
                m.now = m.images.get(i).copy();
                m.past.clear();
            }
            Check.due(where + " back", x.back(i), !bad);
        }
        Check.due(where + " trouble", x.trouble(), trouble);
        Check.due(where + " acts", x.size(9), m.past.size());
        Check.due(where + " lines", x.size(5), m.lines());
        Check.due(where + " images", x.size(10), m.images.size());
    }

    private static void all(PostScripts x, Model m, Random random, String where) {
        for (int p = 0; p < m.places(); p++) {
            for (int what = 0; what < 6; what++) {
                Check.due(where + " place", x.place(p, what), m.place(p, what));
            }
            List<Integer> ring = m.ring(p, 0);
            Check.due(where + " ring", x.ring(p), ring.isEmpty() ? -2 : ring.size());
            for (int i = 0; i < 7; i++) {
                Check.due(where + " ringAt", x.ringAt(p, i), i < ring.size() ? ring.get(i) : -1);
            }
            for (int q = 0; q < m.places(); q++) {
                Check.due(where + " outranks", x.outranks(p, q), p == q ? -1 : m.outranks(p, q, 0) ? 1 : 0);
            }
        }
        for (int h = 0; h < m.hands(); h++) {
            for (int what = 0; what < 3; what++) {
                Check.due(where + " hand", x.hand(h, what), m.hand(h, what));
            }
        }
        for (int k = 0; k < m.lines(); k++) {
            for (int what = 0; what < 8; what++) {
                Check.due(where + " line", x.line(k, what), m.line(k, what));
            }
            int which = k;
            long[] odds = m.mean(s -> m.stands(s, m.now.lines().get(which).matter()) == which ? 1 : 0);
            Check.due(where + " standOdds", x.standOdds(k, false), odds[0]);
            Check.due(where + " standOdds lower", x.standOdds(k, true), odds[1]);
        }
        for (int matter = 0; matter < m.matters(); matter++) {
            matter(x, m, random, matter, where + " matter " + matter);
        }
        whole(x, m, random, where);
    }

    private static void matter(PostScripts x, Model m, Random random, int matter, String where) {
        Check.due(where + " done", x.done(matter), m.done(m.now, matter));
        Check.due(where + " stands", x.stands(matter), m.stands(m.now, matter));
        for (int n = 0; n <= m.lines(); n++) {
            Check.due(where + " doneBy", x.doneBy(matter, n), m.doneBy(matter, n));
        }
        Check.due(where + " changes", x.changes(matter), m.changes(matter));
        Check.due(where + " since", x.since(matter), m.since(matter));
        Check.due(where + " turn", x.turn(matter), m.turn(matter));
        for (int say = 0; say < 2; say++) {
            Check.due(where + " holds", x.holds(matter, say == 1), m.holds(matter, say));
            for (int p = 0; p < m.places(); p++) {
                boolean open = m.open(m.now, p);
                Check.due(where + " doneIf", x.doneIf(matter, p, say == 1), open ? m.done(m.with(m.now, p, matter, say), matter) : -1);
                Check.due(where + " doneIf trouble", x.trouble(), open ? 0 : m.now.folded().contains(p) ? 5 : 3);
            }
        }
        int n = random.nextInt(random.nextInt(8) == 0 ? 5 : 4);
        Check.due(where + " wins", x.wins(matter, n), m.wins(m.now, matter, n, true) ? 1 : 0);
        Check.due(where + " winsBy", x.winsBy(matter, n), n == 0 ? -1 : m.winsBy(matter, n));
        long[] odds = m.mean(s -> m.done(s, matter) == 1 ? 1 : 0);
        Check.due(where + " odds", x.odds(matter, false), odds[0]);
        Check.due(where + " odds lower", x.odds(matter, true), odds[1]);
        int seed = random.nextInt(65537);
        int times = random.nextInt(61);
        Check.due(where + " thumbs", x.thumbs(matter, seed, times), m.thumbsDone(matter, seed, times));
    }

    private static void whole(PostScripts x, Model m, Random random, String where) {
        Check.due(where + " allDone", x.allDone(), m.allDone());
        Check.due(where + " ruler", x.ruler(), m.ruler());
        Check.due(where + " power", x.power(), m.power());
        Check.due(where + " idle", x.idle(), m.idle());
        Check.due(where + " weakest", x.weakest(), m.weakest());
        Check.due(where + " free", x.free(), m.free());
        Check.due(where + " top", x.top(), m.top());
        Check.due(where + " taken", x.taken(), m.taken(30)[0]);
        Check.due(where + " paid", x.paid(), m.taken(30)[1]);
        for (int b = 0; b < m.t.bids.size(); b++) {
            Check.due(where + " worthOf", x.worthOf(b), m.taken(30)[1] - m.taken(b)[1]);
        }
        long[] mean = m.mean(s -> {
            int done = 0;
            for (int matter = 0; matter < m.matters(); matter++) {
                done += m.done(s, matter) == 1 ? 1 : 0;
            }
            return done;
        });
        Check.due(where + " mean", x.mean(false), mean[0]);
        Check.due(where + " mean lower", x.mean(true), mean[1]);
        int seed = random.nextInt(65537);
        int times = random.nextInt(61);
        Check.due(where + " smudged", x.smudged(seed, times), m.thumbs(seed, times).struck().size());
        for (int i = -1; i < 5; i++) {
            Check.due(where + " led", Check.led(x, i), m.led(i));
        }
        if (random.nextInt(4) == 0) {
            hidden(x, m, where);
        }
    }

    private static void hidden(PostScripts x, Model m, String where) {
        List<List<Integer>> fits = m.fits();
        Check.due(where + " fits", x.fits(), fits.size());
        for (int k = 0; k < m.t.hidden.size(); k++) {
            for (int i = 0; i < fits.size(); i++) {
                Check.due(where + " fitAt", x.fitAt(i, k), fits.get(i).get(k));
            }
            Check.due(where + " fitAt more", x.fitAt(fits.size(), k), -1);
            for (int matter = 0; matter < m.matters(); matter++) {
                int line = k;
                int of = matter;
                Check.due(where + " says", x.says(k, matter), fits.stream().filter(row -> row.get(line) >= 0 && row.get(line) / 2 == of).count());
            }
        }
        Check.due(where + " ask", x.ask(), m.ask()[0]);
        Check.due(where + " askLeaves", x.askLeaves(), m.ask()[1]);
        Check.due(where + " judge", x.judge(), m.judge());
    }

    // ---- any numbers

    private static int any(Random random) {
        int[] some = {Integer.MIN_VALUE, Integer.MAX_VALUE, -1, 0, 1, 2, 3, 4, 5, 6, 7, 8, 9, 31, 32, 33, 60, 64, 65536, 900};
        return random.nextInt(4) == 0 ? random.nextInt() : some[random.nextInt(some.length)];
    }

    private static void anyNumbers(Random random) {
        PostScripts x = new PostScripts();
        if (random.nextInt(4) != 0) {
            Check.tell(x, join(random, letter(random), false));
        }
        for (int i = 0; i < 500; i++) {
            int call = random.nextInt(50);
            int a = any(random);
            int b = any(random);
            int c = any(random);
            int d = any(random);
            boolean say = random.nextBoolean();
            boolean lower = random.nextBoolean();
            try {
                anyCall(x, call, new int[] {a, b, c, d}, say, lower);
            } catch (RuntimeException e) {
                Check.due("call " + call + " " + a + " " + b + " " + c + " " + d + " throws " + e, 1, 0);
            }
        }
        Check.due("any numbers", x.size(-5), -1);
    }

    private static void anyCall(PostScripts x, int call, int[] v, boolean say, boolean lower) {
        switch (call) {
            case 0 -> x.feed(v[0], v[1], v[2], v[3], v[0]);
            case 1 -> x.letter(v[0] % 2 == 0 ? v[1] : -1);
            case 2 -> x.place(v[0], v[1]);
            case 3 -> x.hand(v[0], v[1]);
            case 4 -> x.line(v[0], v[1]);
            case 5 -> x.done(v[0]);
            case 6 -> x.stands(v[0]);
            case 7 -> x.doneBy(v[0], v[1]);
            case 8 -> x.changes(v[0]);
            case 9 -> x.since(v[0]);
            case 10 -> x.turn(v[0]);
            case 11 -> x.holds(v[0], say);
            case 12 -> x.doneIf(v[0], v[1], say);
            case 13 -> x.wins(v[0], v[1]);
            case 14 -> x.winsBy(v[0], v[1]);
            case 15 -> x.outranks(v[0], v[1]);
            case 16 -> x.ring(v[0]);
            case 17 -> x.ringAt(v[0], v[1]);
            case 18 -> x.worthOf(v[0]);
            case 19 -> x.fitAt(v[0], v[1]);
            case 20 -> x.says(v[0], v[1]);
            case 21 -> x.foot(v[0], say, lower, !say);
            case 22 -> x.rests(v[0]);
            case 23 -> x.rest(v[0]);
            case 24 -> x.odds(v[0], lower);
            case 25 -> x.standOdds(v[0], lower);
            case 26 -> x.thumbs(v[0], v[1], v[2]);
            case 27 -> x.smudged(v[0], v[1]);
            case 28 -> x.write(v[0], v[1], v[2], say, v[3]);
            case 29 -> x.strike(v[0]);
            case 30 -> x.fold(v[0]);
            case 31 -> x.back(v[0]);
            case 32 -> Check.led(x, v[0]);
            case 33 -> x.size(v[0]);
            case 34 -> x.mean(lower);
            case 35 -> x.image();
            case 36 -> x.undo();
            case 37 -> x.fits();
            case 38 -> x.ask();
            case 39 -> x.askLeaves();
            case 40 -> x.judge();
            case 41 -> x.free();
            case 42 -> x.top();
            case 43 -> x.taken();
            case 44 -> x.paid();
            case 45 -> x.weakest();
            case 46 -> x.idle();
            case 47 -> x.power();
            case 48 -> x.ruler();
            default -> x.allDone();
        }
    }
}
