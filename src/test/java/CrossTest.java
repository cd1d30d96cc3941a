import java.util.Random;

/** Random fields: each call's answer beside one that is put together slowly from plainer calls. */
public final class CrossTest {
    private static final Due due = new Due();
    private static final Random random = new Random(1);
    private static final String[] LAWS = {"p+k/2", "p+m/20+r", "k%3=2?p*2;p", "m>50?1;p+t", "c+1", "p*(1+(k>5))-t", "99-k", "k=0?9;1"};

    public static void main(String[] args) {
        for (int i = 0; i < 150; i++) {
            PennyALap x = someField();
            int t = random.nextInt(4) == 0 ? random.nextInt(1000) : random.nextInt(120);
            laps(x, t);
            sponsorsAlone(x, t);
            childrenAlone(x, t);
            howLong(x);
            coming(x, t);
            sheets(x, t);
            oak(x, t);
        }
        for (int i = 0; i < 60; i++) {
            field();
        }
        due.end();
    }

    private static int below(int n) {
        return random.nextInt(n);
    }

    private static PennyALap someField() {
        PennyALap x = new PennyALap();
        int children = 1 + below(6);
        for (int c = 0; c < children; c++) {
            x.child(1 + below(below(2) == 0 ? 30 : 6));
            x.mend(c, 1, below(3) == 0 ? below(10) : 0);
            x.mend(c, 2, below(3) == 0 ? below(20) : 99);
        }
        int sponsors = below(14);
        for (int s = 0; s < sponsors; s++) {
            x.sponsor(below(children), below(3) == 0 ? below(201) : below(12));
            x.mend(s, 5, below(3) == 0 ? below(1000) : 0);
            x.mend(s, 6, below(3) == 0 ? below(100) : below(12));
            x.mend(s, 7, below(3) == 0 ? below(700) : 0);
            x.mend(s, 8, below(3) == 0 ? below(500) : 9999);
        }
        x.mend(0, 9, below(2) == 0 ? below(10) : 0);
        x.mend(0, 10, below(13));
        x.mend(0, 11, 1 + below(4));
        x.mend(0, 12, below(2) == 0 ? below(200) : 0);
        if (below(2) == 0) {
            due.is("law()", Due.law(x, LAWS[below(LAWS.length)]), 1);
        }
        return x;
    }

    /** By lap() alone; m is known to lap() up to 999 only, and no T is beyond. */
    private static int slowLaps(PennyALap x, int c, int t) {
        int m = 0;
        for (int k = 0; k < x.of(c, 2); k++) {
            m += x.lap(c, 1000 * k + m);
            if (m > t) {
                return k;
            }
        }
        return x.of(c, 2);
    }

    private static int slowPaid(PennyALap x, int c, int laps, int what) {
        int sum = 0;
        for (int s = 0; s < x.count(1); s++) {
            sum += x.of(s, 13) == c ? x.owes(s, laps, what) : 0;
        }
        return sum;
    }

    private static void laps(PennyALap x, int t) {
        int[] sum = new int[3];
        int most = 0;
        int whose = -2;
        int rich = -1;
        int richest = -2;
        int bits = 0;
        for (int c = 0; c < x.count(0); c++) {
            int laps = slowLaps(x, c, t);
            int paid = slowPaid(x, c, laps, 1);
            due.is("laps", x.laps(c, t, 0), laps);
            due.is("owed", x.laps(c, t, 1), slowPaid(x, c, laps, 0));
            due.is("paid", x.laps(c, t, 2), paid);
            sum[0] += laps;
            sum[1] += slowPaid(x, c, laps, 0);
            sum[2] += paid;
            whose = laps > most ? c : whose;
            most = Math.max(most, laps);
            richest = paid > rich ? c : richest;
            rich = Math.max(rich, paid);
            for (int s = 0; s < x.count(1); s++) {
                bits |= x.of(s, 13) == c && x.owes(s, laps, 0) > x.of(s, 8) ? 1 << s : 0;
            }
            due.is("minutes", x.minutes(c, laps) <= t ? 1 : 0, 1);
            due.is("a lap more", laps == x.of(c, 2) || x.minutes(c, laps + 1) > t ? 1 : 0, 1);
        }
        due.is("laps of all", x.laps(-1, t, 0), sum[0]);
        due.is("owed by all", x.laps(-1, t, 1), sum[1]);
        due.is("paid by all", x.laps(-1, t, 2), sum[2] - (most > 0 ? x.of(0, 12) : 0));
        due.is("surprised", x.most(t, 0), bits);
        due.is("most laps", x.most(t, 1), whose);
        due.is("most pence", x.most(t, 2), richest);
        due.is("drawn without cuts, laps", x.drawn(t, 3000 + t, 0), 3 * sum[0]);
        due.is("drawn without cuts, pence", x.drawn(t, 3000 + t, 1), 3 * x.laps(-1, t, 2));
    }

    private static void sponsorsAlone(PennyALap x, int t) {
        for (int s = 0; s < x.count(1); s++) {
            int v = below(1500);
            int least = -2;
            for (int k = 99; k >= 0; k--) {
                least = x.owes(s, k, 0) >= v ? k : least;
            }
            due.is("lapOrSum", x.lapOrSum(s, v), least);
            int top = x.mend(s, 7, 0);
            int most = 0;
            for (int k = 0; k <= 99; k++) {
                most = Math.max(most, x.owes(s, k, 0));
            }
            x.mend(s, 7, top);
            due.is("top", x.top(s), most <= x.of(s, 8) ? 0 : Math.max(1, x.of(s, 8)));
        }
    }

    private static void childrenAlone(PennyALap x, int t) {
        for (int c = 0; c < x.count(0); c++) {
            int done = 0;
            int v = slowPaid(x, c, below(100), 1);
            int many = 0;
            int least = -2;
            for (int k = 0; k <= 99; k++) {
                if (k < 99) {
                    int more = slowPaid(x, c, k + 1, 1) - slowPaid(x, c, k, 1);
                    due.is("more", x.more(c, k), more);
                    done = more > 0 ? k + 1 : done;
                }
                boolean just = slowPaid(x, c, k, 1) == v;
                many += just ? 1 : 0;
                least = just && least < 0 ? k : least;
            }
            due.is("done", x.done(c), done);
            due.is("lapsFor", x.lapsFor(c, v, 0), many);
            due.is("lapsFor, the least", x.lapsFor(c, v, 1), least);
            int laps = x.laps(c, t, 0);
            int per = below(201);
            int with = x.laps(c, t, 2) + Math.min(9999, per * laps);
            int first = 0;
            while (x.laps(c, t, 2) + Math.min(9999, first * laps) != with) {
                first++;
            }
            due.is("whose", x.whose(c, t, with), first);
        }
    }

    private static void howLong(PennyALap x) {
        int v = below(3000);
        int t = 0;
        while (t <= 999 && x.laps(-1, t, 2) < v) {
            t++;
        }
        due.is("howLong(" + v + ")", x.howLong(v), t > 999 ? -2 : t);
    }

    private static void coming(PennyALap x, int t) {
        int weeks = 1 + below(60);
        long[] reminders = new long[below(6)];
        for (int i = 0; i < reminders.length; i++) {
            reminders[i] = below(8) == 0 ? below(256) : below(8);
        }
        Due.row(x, 0, 0, reminders);
        int all = 0;
        int came = 0;
        int[] left = new int[16];
        for (int s = 0; s < x.count(1); s++) {
            left[s] = x.owes(s, x.laps(x.of(s, 13), t, 0), 1);
            all += left[s];
        }
        int[] byWeek = new int[61];
        for (int w = 1; w <= 60; w++) {
            boolean reminded = false;
            for (int i = 0; i < reminders.length; i++) {
                reminded |= (byte) reminders[i] == w - 1;
            }
            for (int s = 0; s < x.count(1); s++) {
                int part = left[s] * x.of(0, 10) / 12;
                part = left[s] > 0 && part == 0 ? 1 : part;
                part = reminded ? part * x.of(0, 11) : part;
                part = Math.min(part, left[s]);
                left[s] -= part;
                came += part;
            }
            byWeek[w] = came;
        }
        due.is("comes", x.comes(0, 100 * t + weeks), byWeek[weeks]);
        for (int part = 0; part <= 12; part++) {
            int first = 0;
            while (first <= 60 && byWeek[first] * 12 < part * all) {
                first++;
            }
            due.is("by", x.by(0, 100 * t + part), first > 60 ? -2 : first);
        }
        remind(x, 100 * t + weeks, reminders);
    }

    private static void remind(PennyALap x, int tw, long[] reminders) {
        int best = -1;
        int most = -1;
        for (int week = 0; week < tw % 100; week++) {
            long[] more = java.util.Arrays.copyOf(reminders, reminders.length + 1);
            more[reminders.length] = week;
            Due.row(x, 1, 0, more);
            int came = x.comes(1, tw);
            best = came > most ? week : best;
            most = Math.max(most, came);
        }
        due.is("remind", x.remind(0, tw, 0), best);
        due.is("remind, how much", x.remind(0, tw, 1), most);
    }

    private static void sheets(PennyALap x, int t) {
        int twos = below(4);
        long[] sheet = new long[2 * twos + (below(8) == 0 ? 1 : 0)];
        for (int i = 0; i < twos; i++) {
            sheet[2 * i] = below(x.count(0) + (below(8) == 0 ? 1 : 0));
            sheet[2 * i + 1] = Math.max(0, x.laps((int) sheet[2 * i], Math.min(999, t + (below(3) == 0 ? below(9) : 0)), 2));
        }
        Due.row(x, 2, 1, sheet);
        int amiss = -2;
        for (int i = sheet.length - 1; i >= 0; i--) {
            if (i % 2 == 0 && (i + 1 == sheet.length || sheet[i] >= x.count(0)
                || x.laps((int) sheet[i], t, 2) != (short) sheet[i + 1])) {
                amiss = i / 2;
            }
        }
        due.is("judge", x.judge(2, t), amiss);
        int first = 0;
        while (first <= 999 && x.judge(2, first) != -2) {
            first++;
        }
        due.is("minutesFor", x.minutesFor(2), first > 999 ? -2 : first);
    }

    private static void oak(PennyALap x, int t) {
        long[] said = new long[below(8)];
        for (int c = 0; c < said.length; c++) {
            said[c] = below(5) == 0 ? -1 - below(128) : Math.min(99, Math.max(0, x.laps(c, t, 0)) + below(3));
        }
        Due.row(x, 3, 0, said);
        int bits = 0;
        for (int c = 0; c < x.count(0); c++) {
            boolean cheats = c < said.length && said[c] > x.laps(c, t, 0);
            bits |= cheats ? 1 << c : 0;
            int stops = x.mend(c, 2, 99);
            int minutes = cheats ? x.minutes(c, (int) said[c]) : 0;
            x.mend(c, 2, stops);
            due.is("minutes under the oak", x.oak(3, t, c), cheats ? t - minutes : 0);
        }
        due.is("who sat under the oak", x.oak(3, t, -1), bits);
    }

    /** All ways to share the field, for few laps each. */
    private static void field() {
        PennyALap x = new PennyALap();
        int children = 1 + below(4);
        int m = below(60);
        for (int c = 0; c < children; c++) {
            x.child(1 + below(9));
            x.mend(c, 1, below(4));
            x.mend(c, 2, below(9));
            for (int s = 0; s < 2; s++) {
                x.sponsor(c, below(4));
                x.mend(2 * c + s, 5, below(20));
                x.mend(2 * c + s, 6, below(9));
                x.mend(2 * c + s, 7, below(3) == 0 ? below(30) : 0);
            }
        }
        x.mend(0, 12, below(50));
        if (below(3) == 0) {
            Due.law(x, LAWS[below(LAWS.length)]);
        }
        int[] best = {-1, 0, 0, 0, 0, 0};
        share(x, m, 0, new int[4], best);
        due.is("field, pence", x.field(m, -1), best[0]);
        due.is("field, minutes", x.field(m, -2), best[1]);
        for (int c = 0; c < children; c++) {
            due.is("field, laps of " + c, x.field(m, c), best[2 + c]);
        }
    }

    /** best: pence, minutes, laps of each; the first way that is better counts, and ways come by laps, the least first. */
    private static void share(PennyALap x, int m, int c, int[] laps, int[] best) {
        if (c < x.count(0)) {
            for (int k = 0; k <= x.of(c, 2); k++) {
                laps[c] = k;
                share(x, m, c + 1, laps, best);
            }
            return;
        }
        int pence = 0;
        int minutes = 0;
        for (int i = 0; i < x.count(0); i++) {
            pence += x.owes(2 * i, laps[i], 1) + x.owes(2 * i + 1, laps[i], 1);
            minutes += x.minutes(i, laps[i]);
        }
        if (minutes <= m && (pence > best[0] || pence == best[0] && minutes < best[1])) {
            best[0] = pence;
            best[1] = minutes;
            System.arraycopy(laps, 0, best, 2, 4);
        }
    }
}
