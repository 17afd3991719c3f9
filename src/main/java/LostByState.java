import java.util.NoSuchElementException;

/**
 * Lost property of the state: what a government mislays, taken in at a small office,
 * claimed by description within a term, or gone to whoever found it.
 */
public final class LostByState {
    public static final int NONE = -1;

    private static final int NOT_SO = -2;
    private static final int MISSING = -3;
    private static final int NOWHERE_LIKELY = -100;
    private static final int OTHER_LOOKS = -200;
    private static final int WRONG_LAW = -10000;

    private static final int MOST_THINGS = 8;
    private static final int MOST_DEEDS = 6;
    private static final int MOST_SHARES = 6;
    private static final int MOST_SAID = 12;
    private static final int MARKS = 8;
    private static final int DESCRIPTIONS = 256;
    private static final int ALL_MARKS = 255;
    private static final int PLACES = 6;
    private static final int PEOPLE = 6;
    private static final int STATE = 6;
    private static final int MOST_DAYS = 99;
    private static final int MOST_NEED = 99;
    private static final int MOST_PAID = 9999;
    private static final int MOST_WORTH = 9;
    private static final int MOST_MATCH = 999;
    private static final int KEPT = 2;
    private static final int WAITS = 10;

    private static final int THINGS_SIGNS = 79;
    private static final int DEEDS_SIGNS = 53;
    private static final int RULE_SIGNS = 40;
    private static final int YEAR_SIGNS = 60;
    private static final int TEXT_SIGNS = 80;

    private final Text text = new Text();
    private final Row told = new Row();
    private final Stock stock = new Stock();
    private final Whereabouts now = new Whereabouts();
    private final Whereabouts trial = new Whereabouts();
    private final Past past = new Past();
    private final Whereabouts[] kept = new Whereabouts[KEPT];
    private final boolean[] isKept = new boolean[KEPT];
    private final Rule inForce = new Rule();
    private final Rule other = new Rule();
    private final RuleReader ruleReader = new RuleReader(text, other);
    private final Acts acts = new Acts();
    private final Sharing sharing = new Sharing();
    private final Survey survey = new Survey();
    private final Hearsay hearsay = new Hearsay();
    private final int[] digits = new int[PLACES];
    private int drawn = 0;
    private int term = 30;
    private int need = 3;

    public LostByState() {
        for (int i = 0; i < kept.length; i++) {
            kept[i] = new Whereabouts();
        }
    }

    // ---- things, deeds

    public int sign(int v) {
        return text.hasRoomForFour() ? text.append(v) : NONE;
    }

    public boolean end(int n) {
        return text.cutTo(n);
    }

    public int things() {
        int lines = stock.readThings(text);
        text.clear();
        if (lines > 0) {
            now.arrive(stock.thingMany, lines);
            stock.thingMany += lines;
            forgetThePast();
        }
        return lines;
    }

    public int deeds() {
        int lines = text.isEmpty() ? 0
            : text.readSets('0', stock.thingMany, DEEDS_SIGNS, stock.needs, stock.deedMany);
        text.clear();
        if (lines > 0) {
            stock.deedMany += lines;
            forgetThePast();
        }
        return lines;
    }

    public int rule() {
        int wrong = readOtherRule();
        if (wrong >= 0) {
            return -1 - wrong;
        }
        inForce.become(other);
        return 0;
    }

    public int thing(int thing, int what) throws NoSuchElementException {
        if (!isThing(thing)) {
            throw new NoSuchElementException("no such thing");
        }
        switch (what) {
            case 0: return stock.marks[thing];
            case 1: return stock.worths[thing];
            case 2: return now.holder[thing];
            case 3: return now.place[thing];
            case 4: return now.days[thing];
            case 5: return now.finder[thing];
            case 6: return stock.deedsThatNeed(thing);
            default: throw new NoSuchElementException("no such question about a thing");
        }
    }

    public int deed(int deed, int what) throws NoSuchElementException {
        if (!isDeed(deed)) {
            throw new NoSuchElementException("no such deed");
        }
        int lacking = stock.needs[deed] & ~now.heldBy(STATE);
        switch (what) {
            case 0: return stock.needs[deed];
            case 1: return lacking;
            case 2: return lacking == 0 ? 1 : 0;
            default: throw new NoSuchElementException("no such question about a deed");
        }
    }

    public int set(int what, int v) {
        if (what == 0 && v >= 1 && v <= MOST_DAYS) {
            int was = term;
            term = v;
            return 100 + was;
        }
        if (what == 1 && v >= -MOST_NEED && v <= MOST_NEED) {
            int was = need;
            need = v;
            return 100 + was;
        }
        return NONE;
    }

    public int sheet(int kind, int n, int f, int step) {
        if (kind < 0 || kind > 3 || n > MOST_THINGS) {
            return NONE;
        }
        boolean missing = kind == 3;
        if (!missing && n < 0) {
            return NOT_SO;
        }
        int entries = missing ? 0 : n;
        int sum = 0;
        for (int t = 0; t < stock.thingMany; t++) {
            int worth = t < entries ? sheetEntry(kind, f + t * step) : 1;
            stock.worths[t] = worth;
            sum += worth;
        }
        return missing ? MISSING : sum;
    }

    // ---- the office

    public int loses(int thing, int place) {
        return act(Acts.LOSE, thing, place);
    }

    public int finds(int person, int thing) {
        return act(Acts.FIND, person, thing);
    }

    public int claim(int who, int marks) {
        return act(Acts.CLAIM, who, marks);
    }

    public int gives(int thing, int who) {
        return act(Acts.GIVE, thing, who);
    }

    public int days(int n) {
        if (!isSpan(n)) {
            return NONE;
        }
        past.note(now);
        int gone = now.passDays(n, term);
        if (n > 0) {
            past.keepNoted();
        }
        told.begin();
        told.tell(gone);
        told.tell(stock.doableWith(now.heldBy(STATE)));
        return Integer.bitCount(gone);
    }

    public int year() {
        int wrong = acts.readFrom(text);
        text.clear();
        if (wrong >= 0) {
            return -1 - wrong;
        }
        past.note(now);
        int done = 0;
        for (int i = 0; i < acts.many && done == i; i++) {
            if (perform(now, acts.kinds[i], acts.first[i], acts.second[i]) >= 0) {
                done++;
            }
        }
        if (done > 0) {
            past.keepNoted();
        }
        told.begin();
        told.tell(done < acts.many ? 1 : 0);
        told.tell(stock.doableWith(now.heldBy(STATE)));
        return done;
    }

    public int undo() {
        return past.bringBack(now) ? past.many : NONE;
    }

    // ---- descriptions

    public int match(int marks, int thing) {
        if (!isDescription(marks) || !isThing(thing)) {
            return NONE;
        }
        return toldMatch(matchOf(marks, thing, now));
    }

    public int gets(int marks) {
        if (!isDescription(marks)) {
            return NONE;
        }
        int best = bestThing(marks, now);
        if (best < 0) {
            return NOT_SO;
        }
        told.begin();
        told.tell(toldMatch(matchOf(marks, best, now)));
        told.tell(howManyMatch(marks));
        return best;
    }

    public int fewest(int thing) {
        if (!isThing(thing)) {
            return NONE;
        }
        surveyBy(inForce);
        int least = NONE;
        int many = MARKS + 1;
        for (int marks = 0; marks < DESCRIPTIONS; marks++) {
            int bits = Integer.bitCount(marks);
            if (bits < many && survey.got[marks] == thing) {
                least = marks;
                many = bits;
            }
        }
        if (least < 0) {
            return NOT_SO;
        }
        told.begin();
        told.tell(least);
        return many;
    }

    public int ways(int thing) {
        if (!isThing(thing)) {
            return NONE;
        }
        surveyBy(inForce);
        told.begin();
        told.tell(survey.howManyGet(NONE));
        return survey.howManyGet(thing);
    }

    public int shares() {
        int lines = text.isEmpty() ? 0
            : text.readSets('a', MARKS, TEXT_SIGNS, sharing.described, 0);
        text.clear();
        if (lines < 0) {
            return lines;
        }
        for (int i = 0; i < lines; i++) {
            for (int t = 0; t < stock.thingMany; t++) {
                int match = matchOf(sharing.described[i], t, now);
                sharing.gain[i * MOST_THINGS + t] = putBetween(match, -MOST_MATCH, MOST_MATCH);
            }
        }
        int inside = now.inside();
        sharing.workOut(lines, inside);
        tellShares(lines, inside);
        return sharing.best[0];
    }

    // ---- later

    public int until(int thing) {
        if (!isThing(thing)) {
            return NONE;
        }
        return now.isIn(thing) ? now.daysLeft(thing, term) : NOT_SO;
    }

    public int later(int n) {
        if (!isSpan(n)) {
            return NONE;
        }
        trial.become(now);
        trial.passDays(n, term);
        int people = 0;
        for (int person = 0; person < PEOPLE; person++) {
            if (trial.heldBy(person) != 0) {
                people |= 1 << person;
            }
        }
        told.begin();
        told.tell(trial.heldBy(STATE));
        told.tell(people);
        return trial.inside();
    }

    public int advantage() {
        int best = 0;
        int most = stock.worthOf(now.heldBy(0));
        for (int person = 1; person < PEOPLE; person++) {
            int much = stock.worthOf(now.heldBy(person));
            if (much > most) {
                most = much;
                best = person;
            }
        }
        told.begin();
        told.tell(most);
        told.tell(now.heldBy(best));
        return best;
    }

    public int soonest() {
        int best = NONE;
        int least = MOST_DAYS + 1;
        for (int t = 0; t < stock.thingMany; t++) {
            if (now.isIn(t) && now.daysLeft(t, term) < least) {
                least = now.daysLeft(t, term);
                best = t;
            }
        }
        if (best < 0) {
            return NOT_SO;
        }
        told.begin();
        told.tell(least);
        told.tell(now.finder[best]);
        return best;
    }

    public int confused(int thing) {
        if (!isThing(thing)) {
            return NONE;
        }
        int marks = stock.marks[thing];
        int best = NONE;
        int most = 0;
        for (int t = 0; t < stock.thingMany; t++) {
            if (t == thing || !now.isIn(t)) {
                continue;
            }
            int match = matchOf(marks, t, now);
            if (best < 0 || match > most) {
                best = t;
                most = match;
            }
        }
        if (best < 0) {
            return NOT_SO;
        }
        told.begin();
        told.tell(toldMatch(most));
        told.tell(toldMatch(matchOf(marks, thing, now)));
        return best;
    }

    public int regains(int deed) {
        if (!isDeed(deed)) {
            return NONE;
        }
        int needs = stock.needs[deed];
        int lacking = needs & ~now.heldBy(STATE);
        int inside = needs & now.inside();
        int lost = needs & now.lost();
        told.begin();
        told.tell(lost);
        told.tell(lacking & ~inside & ~lost);
        told.tell(stock.worthOf(lacking));
        return inside;
    }

    // ---- which it is

    public int said(int mark, int is) {
        if (mark < 0 || mark >= MARKS || is < 0 || is > 1 || hearsay.many >= MOST_SAID) {
            return NONE;
        }
        hearsay.hear(mark, is == 1);
        return hearsay.many;
    }

    public int forget() {
        int were = hearsay.many;
        hearsay.clear();
        return were;
    }

    public int fits() {
        int fitting = fittingThings();
        int common = ALL_MARKS;
        for (int t = 0; t < stock.thingMany; t++) {
            if (isOf(fitting, t)) {
                common &= stock.marks[t];
            }
        }
        told.begin();
        told.tell(Integer.bitCount(fitting));
        told.tell(common);
        return fitting;
    }

    public int ask() {
        int fitting = fittingThings();
        if (fitting == 0) {
            return NOT_SO;
        }
        int all = Integer.bitCount(fitting);
        int best = 0;
        int fewestLeft = all + 1;
        for (int mark = 0; mark < MARKS; mark++) {
            int having = Integer.bitCount(fitting & stock.thingsMarked(mark));
            int left = Math.max(having, all - having);
            if (left < fewestLeft) {
                fewestLeft = left;
                best = mark;
            }
        }
        told.begin();
        told.tell(fewestLeft);
        return best;
    }

    public int tellsApart() {
        int least = NONE;
        int many = MARKS + 1;
        for (int marks = 0; marks < DESCRIPTIONS; marks++) {
            int bits = Integer.bitCount(marks);
            if (bits < many && stock.allDifferIn(marks)) {
                least = marks;
                many = bits;
            }
        }
        if (least < 0) {
            return NOT_SO;
        }
        told.begin();
        told.tell(least);
        return many;
    }

    public int alike() {
        int least = MARKS + 1;
        int one = 0;
        int another = 0;
        for (int a = 0; a < stock.thingMany; a++) {
            for (int b = a + 1; b < stock.thingMany; b++) {
                int differ = Integer.bitCount(stock.marks[a] ^ stock.marks[b]);
                if (differ < least) {
                    least = differ;
                    one = a;
                    another = b;
                }
            }
        }
        if (least > MARKS) {
            return NOT_SO;
        }
        told.begin();
        told.tell(one);
        told.tell(another);
        told.tell(stock.marks[one] & stock.marks[another]);
        return least;
    }

    // ---- where to look

    public int looks(int n) {
        if (n < 0 || n > 10) {
            text.clear();
            return OTHER_LOOKS;
        }
        int many = text.readDigits(digits);
        text.clear();
        if (many < 0) {
            return many;
        }
        if (many < PLACES) {
            return -1 - many;
        }
        long sum = sumOfDigits();
        if (sum == 0) {
            return NOWHERE_LIKELY;
        }
        tellLooks(n, sum);
        return 0;
    }

    public int strays(int a, int b, int n) {
        if (!isPlace(a) || !isPlace(b) || n < 0 || n > 20) {
            return NONE;
        }
        long paths = 0;
        long choices = 1;
        for (int forward = 0; forward <= n; forward++) {
            int reached = Math.floorMod(a + forward - (n - forward), PLACES);
            if (reached == b) {
                paths += choices;
            }
            choices = choices * (n - forward) / (forward + 1);
        }
        told.begin();
        told.tellFraction(paths, 1L << n);
        return 0;
    }

    // ---- deeds

    public int can() {
        int has = now.heldBy(STATE);
        int doable = stock.doableWith(has);
        told.begin();
        told.tell(Integer.bitCount(doable));
        told.tell(stock.allNeeds() & ~has);
        return doable;
    }

    public int with(int k) {
        if (k < 0 || k > MOST_THINGS) {
            return NONE;
        }
        int has = now.heldBy(STATE);
        int others = ((1 << stock.thingMany) - 1) & ~has;
        int most = NONE;
        int best = 0;
        for (int more = 0; more <= others; more++) {
            if ((more & ~others) != 0 || Integer.bitCount(more) > k) {
                continue;
            }
            int many = Integer.bitCount(stock.doableWith(has | more));
            boolean fewer = Integer.bitCount(more) < Integer.bitCount(best);
            if (many > most || many == most && fewer) {
                most = many;
                best = more;
            }
        }
        told.begin();
        told.tell(best);
        return most;
    }

    public int weakest() {
        int has = now.heldBy(STATE);
        int doable = stock.doableWith(has);
        int best = NONE;
        int most = NONE;
        for (int t = 0; t < stock.thingMany; t++) {
            int hit = Integer.bitCount(doable & stock.deedsThatNeed(t));
            if (isOf(has, t) && hit > most) {
                most = hit;
                best = t;
            }
        }
        if (best < 0) {
            return NOT_SO;
        }
        told.begin();
        told.tell(doable & stock.deedsThatNeed(best));
        return best;
    }

    public int worth(int thing) {
        if (!isThing(thing)) {
            return NONE;
        }
        // 840 can be shared out evenly over 1 to 8 things, so whole numbers do
        long whole = 840;
        long sum = 0;
        for (int d = 0; d < stock.deedMany; d++) {
            int sharers = Integer.bitCount(stock.needs[d]);
            if (isOf(stock.needs[d], thing) && sharers > 0) {
                sum += whole / sharers;
            }
        }
        told.begin();
        told.tellFraction(sum, whole);
        return 0;
    }

    public int hangs(int deed) {
        if (!isDeed(deed)) {
            return NONE;
        }
        int together = 1 << deed;
        int needed = stock.needs[deed];
        // each round adds a deed while there is one to add, so as many rounds as deeds reach all
        for (int round = 0; round < stock.deedMany; round++) {
            for (int d = 0; d < stock.deedMany; d++) {
                if ((stock.needs[d] & needed) != 0) {
                    together |= 1 << d;
                    needed |= stock.needs[d];
                }
            }
        }
        told.begin();
        told.tell(needed);
        return together;
    }

    public int likely(int k, int p) {
        if (k < 0 || k > MOST_DEEDS || p < 0 || p > 10) {
            return NONE;
        }
        int has = now.heldBy(STATE);
        int many = Integer.bitCount(has);
        long sum = 0;
        for (int left = 0; left <= has; left++) {
            boolean counts = (left & ~has) == 0
                && Integer.bitCount(stock.doableWith(left)) >= k;
            if (counts) {
                int stay = Integer.bitCount(left);
                sum += power(10 - p, stay) * power(p, many - stay);
            }
        }
        told.begin();
        told.tellFraction(sum, power(10, many));
        return 0;
    }

    // ---- the hatch, rests, rules, years

    public int hatch() {
        int many = text.readDigits(digits);
        text.clear();
        if (many <= 0) {
            return many < 0 ? many : -1;
        }
        int all = 0;
        for (int bay = 0; bay < many; bay++) {
            all ^= digits[bay];
        }
        told.begin();
        for (int bay = 0; bay < many; bay++) {
            int leave = digits[bay] ^ all;
            if (leave < digits[bay]) {
                told.tell(bay);
                told.tell(digits[bay] - leave);
                return 1;
            }
        }
        return 0;
    }

    public int rests(int v, int c) {
        if (v < 0 || v > 20 || c < 0 || c > 5) {
            return NONE;
        }
        told.begin();
        int pairs = 0;
        for (int x = 0; x < WAITS; x++) {
            for (int y = 0; y < WAITS; y++) {
                if (!isBestWait(x, y, v, c) || !isBestWait(y, x, v, c)) {
                    continue;
                }
                if (pairs == 0) {
                    told.tell(x);
                    told.tell(y);
                }
                pairs++;
            }
        }
        return pairs;
    }

    public int law() {
        int wrong = readOtherRule();
        if (wrong >= 0) {
            return WRONG_LAW - wrong;
        }
        surveyBy(other);
        int byIt = DESCRIPTIONS - survey.howManyGet(NONE);
        surveyBy(inForce);
        int byTheRule = DESCRIPTIONS - survey.howManyGet(NONE);
        told.begin();
        told.tell(byIt);
        told.tell(byTheRule);
        return byIt - byTheRule;
    }

    public int years(int seed, int n) {
        if (n < 1 || n > 60) {
            return NONE;
        }
        trial.become(now);
        drawn = seed;
        int got = 0;
        for (int i = 0; i < n; i++) {
            if (drawnActGets()) {
                got++;
            }
        }
        told.begin();
        told.tell(trial.heldBy(STATE));
        told.tell(trial.inside());
        return got;
    }

    // ---- kept

    public boolean keep(int i) {
        if (i < 0 || i >= KEPT) {
            return false;
        }
        kept[i].become(now);
        isKept[i] = true;
        return true;
    }

    public boolean again(int i) {
        if (i < 0 || i >= KEPT || !isKept[i]) {
            return false;
        }
        now.become(kept[i]);
        past.many = 0;
        return true;
    }

    public int count(int what) {
        switch (what) {
            case 0: return stock.thingMany;
            case 1: return stock.deedMany;
            case 2: return term;
            case 3: return 100 + need;
            case 4: return now.day;
            case 5: return now.paid;
            case 6: return now.heldBy(STATE);
            case 7: return now.lost();
            case 8: return now.inside();
            case 9: return hearsay.many;
            case 10: return past.many;
            case 11: return told.many;
            case 12: return text.size;
            default: return NONE;
        }
    }

    public long row(int i) throws NoSuchElementException {
        if (i < 0 || i >= told.many) {
            throw new NoSuchElementException("no such number in the row");
        }
        return told.numbers[i];
    }

    // ---- what the calls share

    private boolean isThing(int thing) {
        return thing >= 0 && thing < stock.thingMany;
    }

    private boolean isDeed(int deed) {
        return deed >= 0 && deed < stock.deedMany;
    }

    private static boolean isPlace(int place) {
        return place >= 0 && place < PLACES;
    }

    private static boolean isPerson(int person) {
        return person >= 0 && person < PEOPLE;
    }

    private static boolean isSomebody(int who) {
        return who >= 0 && who <= STATE;
    }

    private static boolean isDescription(int marks) {
        return marks >= 0 && marks <= ALL_MARKS;
    }

    private static boolean isSpan(int n) {
        return n >= 0 && n <= MOST_DAYS;
    }

    private static boolean isOf(int bits, int member) {
        return (bits >> member & 1) == 1;
    }

    private static int putBetween(int v, int low, int high) {
        return Math.max(low, Math.min(high, v));
    }

    private static int toldMatch(int match) {
        return 1000 + putBetween(match, -MOST_MATCH, MOST_MATCH);
    }

    private static long power(long base, int times) {
        long product = 1;
        for (int i = 0; i < times; i++) {
            product *= base;
        }
        return product;
    }

    private static int sheetEntry(int kind, int v) {
        int entry = kind == 0 ? (byte) v : kind == 1 ? (short) v : v;
        return putBetween(entry, 1, MOST_WORTH);
    }

    // kept whereabouts know nothing of things that came behind them
    private void forgetThePast() {
        past.many = 0;
        for (int i = 0; i < KEPT; i++) {
            isKept[i] = false;
        }
    }

    /** The rule that THE TEXT tells stands in other then: -1, or the place of the wrong sign. */
    private int readOtherRule() {
        int wrong = NONE;
        if (text.isEmpty()) {
            other.becomePlain();
        } else {
            wrong = ruleReader.readAll();
        }
        text.clear();
        return wrong;
    }

    private int act(int kind, int a, int b) {
        past.note(now);
        int answer = perform(now, kind, a, b);
        if (answer >= 0) {
            past.keepNoted();
        }
        return answer;
    }

    private int perform(Whereabouts at, int kind, int a, int b) {
        switch (kind) {
            case Acts.LOSE: return isThing(a) && isPlace(b) ? at.lose(a, b) : NONE;
            case Acts.FIND: return isPerson(a) && isThing(b) ? at.bringIn(b, a) : NONE;
            case Acts.CLAIM: return isSomebody(a) && isDescription(b) ? handOut(at, a, b) : NONE;
            case Acts.GIVE: return isThing(a) && isSomebody(b) ? at.hand(a, b) : NONE;
            case Acts.PASS: return isSpan(a) ? Integer.bitCount(at.passDays(a, term)) : NONE;
            default: return NONE;
        }
    }

    private int handOut(Whereabouts at, int who, int marks) {
        int best = bestThing(marks, at);
        if (best < 0) {
            return NOT_SO;
        }
        at.putWith(best, who);
        at.paid = Math.min(MOST_PAID, at.paid + stock.worths[best]);
        return best;
    }

    private int matchOf(int marks, int thing, Whereabouts at) {
        int days = Math.max(0, at.days[thing]);
        int has = stock.marks[thing];
        int both = Integer.bitCount(marks & has);
        int hasNot = Integer.bitCount(marks & ~has);
        int untold = Integer.bitCount(has & ~marks);
        return inForce.valueOf(both, hasNot, untold, stock.worths[thing], days, at.weekday());
    }

    /** The thing that a claim with a description would get, or -1. */
    private int bestThing(int marks, Whereabouts at) {
        int best = NONE;
        int most = 0;
        for (int t = 0; t < stock.thingMany; t++) {
            if (!at.isIn(t)) {
                continue;
            }
            int match = matchOf(marks, t, at);
            if (match >= need && (best < 0 || match > most)) {
                best = t;
                most = match;
            }
        }
        return best;
    }

    private int howManyMatch(int marks) {
        int many = 0;
        for (int t = 0; t < stock.thingMany; t++) {
            if (now.isIn(t) && matchOf(marks, t, now) >= need) {
                many++;
            }
        }
        return many;
    }

    private void surveyBy(Rule by) {
        survey.clear();
        for (int t = 0; t < stock.thingMany; t++) {
            if (now.isIn(t)) {
                int has = stock.marks[t];
                survey.weigh(by, has, stock.worths[t], now.days[t], now.weekday());
                survey.offer(t, has, need);
            }
        }
    }

    private void tellShares(int lines, int inside) {
        told.begin();
        int used = 0;
        for (int i = 0; i < lines; i++) {
            int choice = sharing.leastChoice(i, used, inside);
            told.tell(choice);
            if (choice >= 0) {
                used |= 1 << choice;
            }
        }
    }

    private int fittingThings() {
        int fitting = 0;
        for (int t = 0; t < stock.thingMany; t++) {
            if (hearsay.isTrueOf(stock.marks[t])) {
                fitting |= 1 << t;
            }
        }
        return fitting;
    }

    private long sumOfDigits() {
        long sum = 0;
        for (int i = 0; i < digits.length; i++) {
            sum += digits[i];
        }
        return sum;
    }

    private void tellLooks(int n, long sum) {
        // times 1024, so that ten looks at one place halve without a rest
        for (int i = 0; i < digits.length; i++) {
            digits[i] <<= 10;
        }
        long found = 0;
        told.begin();
        // the fraction stands first, but is known last
        told.tellFraction(0, 1);
        for (int look = 0; look < n; look++) {
            int best = likeliestPlace();
            digits[best] /= 2;
            found += digits[best];
            told.tell(best);
        }
        told.putFraction(0, found, sum << 10);
    }

    private int likeliestPlace() {
        int best = 0;
        for (int i = 1; i < digits.length; i++) {
            if (digits[i] > digits[best]) {
                best = i;
            }
        }
        return best;
    }

    private static int restsGain(int mine, int his, int v, int c) {
        int reward = Math.max(0, v - (mine + his) / 2);
        return reward + (mine > his ? 3 : 0) - c * mine;
    }

    private static boolean isBestWait(int mine, int his, int v, int c) {
        int gain = restsGain(mine, his, v, c);
        for (int wait = 0; wait < WAITS; wait++) {
            if (restsGain(wait, his, v, c) > gain) {
                return false;
            }
        }
        return true;
    }

    private int draw(int n) {
        drawn = drawn * 1103515245 + 12345;
        return n > 0 ? (drawn >>> 16) % n : 0;
    }

    /** One act that is drawn is done on trial: whether it was a claim that got something. */
    private boolean drawnActGets() {
        int kind = draw(4);
        if (kind == 0) {
            trial.passDays(1, term);
            return false;
        }
        if (kind == 3) {
            int who = draw(STATE + 1);
            int marks = draw(DESCRIPTIONS);
            return handOut(trial, who, marks) >= 0;
        }
        if (stock.thingMany > 0 && kind == 1) {
            int thing = draw(stock.thingMany);
            perform(trial, Acts.LOSE, thing, draw(PLACES));
        } else if (stock.thingMany > 0) {
            int person = draw(PEOPLE);
            perform(trial, Acts.FIND, person, draw(stock.thingMany));
        }
        return false;
    }

    /** THE TEXT, and what several calls read of it. */
    private static final class Text {
        private final int[] signs = new int[TEXT_SIGNS];
        private int size = 0;

        boolean hasRoomForFour() {
            return size + 4 <= signs.length;
        }

        int append(int v) {
            for (int shift = 24; shift >= 0 && size < signs.length; shift -= 8) {
                signs[size] = v >>> shift & 255;
                size++;
            }
            return size;
        }

        boolean cutTo(int n) {
            if (n < 0 || n > size) {
                return false;
            }
            size = n;
            return true;
        }

        boolean isEmpty() {
            return size == 0;
        }

        void clear() {
            size = 0;
        }

        int signAt(int p) {
            return p >= 0 && p < size ? signs[p] : NONE;
        }

        /** Lines of rising signs from low on come into a row as bits: how many lines, or -1 - p. */
        int readSets(int low, int kinds, int limit, int[] into, int from) {
            int stop = Math.min(size, limit);
            int line = from - 1;
            boolean fresh = true;
            int last = NONE;
            for (int p = 0; p < stop; p++) {
                int kind = signs[p] - low;
                if (!fresh && signs[p] == ';') {
                    fresh = true;
                    continue;
                }
                if (fresh) {
                    line++;
                    last = NONE;
                }
                if (line >= into.length || kind <= last || kind >= kinds) {
                    return -1 - p;
                }
                into[line] = (fresh ? 0 : into[line]) | 1 << kind;
                last = kind;
                fresh = false;
            }
            return fresh || stop < size ? -1 - stop : line - from + 1;
        }

        /** Digits, as many as there is room for: how many, or -1 - p. */
        int readDigits(int[] into) {
            for (int p = 0; p < size; p++) {
                if (p >= into.length || signs[p] < '0' || signs[p] > '9') {
                    return -1 - p;
                }
                into[p] = signs[p] - '0';
            }
            return size;
        }
    }

    /** THE ROW: the numbers told last. */
    private static final class Row {
        private final long[] numbers = new long[16];
        private int many = 0;

        void begin() {
            many = 0;
        }

        void tell(long number) {
            if (many < numbers.length) {
                numbers[many] = number;
                many++;
            }
        }

        void tellFraction(long upper, long lower) {
            long divisor = commonDivisor(upper, lower);
            tell(divisor == 0 ? upper : upper / divisor);
            tell(divisor == 0 ? lower : lower / divisor);
        }

        void putFraction(int at, long upper, long lower) {
            int were = many;
            if (at >= 0 && at + 2 <= were) {
                many = at;
                tellFraction(upper, lower);
                many = were;
            }
        }

        private static long commonDivisor(long a, long b) {
            long greater = a;
            long lesser = b;
            for (int step = 0; step < 200 && lesser != 0; step++) {
                long rest = greater % lesser;
                greater = lesser;
                lesser = rest;
            }
            return greater;
        }
    }

    /** Things and deeds as they were told; rows behind thingMany and deedMany are free to be read into. */
    private static final class Stock {
        private final int[] marks = new int[MOST_THINGS];
        private final int[] worths = new int[MOST_THINGS];
        private final int[] needs = new int[MOST_DEEDS];
        private int thingMany = 0;
        private int deedMany = 0;

        /** Lines that THE TEXT tells come behind the things that are there: how many, or -1 - p. */
        int readThings(Text text) {
            int stop = Math.min(text.size, THINGS_SIGNS);
            int line = thingMany - 1;
            boolean fresh = true;
            int last = NONE;
            for (int p = 0; p < stop; p++) {
                int c = text.signAt(p);
                if (fresh) {
                    line++;
                    if (line >= MOST_THINGS || c < '1' || c > '9') {
                        return -1 - p;
                    }
                    worths[line] = c - '0';
                    marks[line] = 0;
                    last = NONE;
                    fresh = false;
                } else if (c == ';') {
                    fresh = true;
                } else if (c - 'a' > last && c <= 'h' && line < MOST_THINGS) {
                    last = c - 'a';
                    marks[line] |= 1 << last;
                } else {
                    return -1 - p;
                }
            }
            if (text.isEmpty()) {
                return 0;
            }
            return fresh || stop < text.size ? -1 - stop : line - thingMany + 1;
        }

        int deedsThatNeed(int thing) {
            int bits = 0;
            for (int d = 0; d < deedMany; d++) {
                bits |= (needs[d] >> thing & 1) << d;
            }
            return bits;
        }

        int doableWith(int things) {
            int bits = 0;
            for (int d = 0; d < deedMany; d++) {
                if ((needs[d] & ~things) == 0) {
                    bits |= 1 << d;
                }
            }
            return bits;
        }

        int allNeeds() {
            int bits = 0;
            for (int d = 0; d < deedMany; d++) {
                bits |= needs[d];
            }
            return bits;
        }

        int worthOf(int things) {
            int sum = 0;
            for (int t = 0; t < thingMany; t++) {
                if (isOf(things, t)) {
                    sum += worths[t];
                }
            }
            return sum;
        }

        int thingsMarked(int mark) {
            int bits = 0;
            for (int t = 0; t < thingMany; t++) {
                bits |= (marks[t] >> mark & 1) << t;
            }
            return bits;
        }

        boolean allDifferIn(int asked) {
            for (int a = 0; a < thingMany; a++) {
                for (int b = a + 1; b < thingMany; b++) {
                    if (((marks[a] ^ marks[b]) & asked) == 0) {
                        return false;
                    }
                }
            }
            return true;
        }
    }

    /** Where all things are, and what else undo() brings back; -1 is for what does not hold. */
    private static final class Whereabouts {
        private final int[] holder = new int[MOST_THINGS];
        private final int[] place = new int[MOST_THINGS];
        private final int[] days = new int[MOST_THINGS];
        private final int[] finder = new int[MOST_THINGS];
        private int day = 0;
        private int paid = 0;

        Whereabouts() {
            for (int t = 0; t < MOST_THINGS; t++) {
                holder[t] = NONE;
                place[t] = NONE;
                days[t] = NONE;
                finder[t] = NONE;
            }
        }

        void become(Whereabouts as) {
            System.arraycopy(as.holder, 0, holder, 0, MOST_THINGS);
            System.arraycopy(as.place, 0, place, 0, MOST_THINGS);
            System.arraycopy(as.days, 0, days, 0, MOST_THINGS);
            System.arraycopy(as.finder, 0, finder, 0, MOST_THINGS);
            day = as.day;
            paid = as.paid;
        }

        void arrive(int from, int many) {
            for (int t = from; t < from + many && t < MOST_THINGS; t++) {
                putWith(t, STATE);
            }
        }

        void putWith(int thing, int who) {
            holder[thing] = who;
            place[thing] = NONE;
            days[thing] = NONE;
            finder[thing] = NONE;
        }

        boolean isIn(int thing) {
            return days[thing] >= 0;
        }

        int weekday() {
            return day % 7;
        }

        int heldBy(int who) {
            int bits = 0;
            for (int t = 0; t < MOST_THINGS; t++) {
                if (holder[t] == who) {
                    bits |= 1 << t;
                }
            }
            return bits;
        }

        int lost() {
            int bits = 0;
            for (int t = 0; t < MOST_THINGS; t++) {
                if (place[t] >= 0) {
                    bits |= 1 << t;
                }
            }
            return bits;
        }

        int inside() {
            int bits = 0;
            for (int t = 0; t < MOST_THINGS; t++) {
                if (isIn(t)) {
                    bits |= 1 << t;
                }
            }
            return bits;
        }

        int lose(int thing, int where) {
            if (holder[thing] < 0) {
                return NOT_SO;
            }
            holder[thing] = NONE;
            place[thing] = where;
            return Integer.bitCount(lost());
        }

        int bringIn(int thing, int person) {
            if (place[thing] < 0) {
                return NOT_SO;
            }
            place[thing] = NONE;
            days[thing] = 0;
            finder[thing] = person;
            return Integer.bitCount(inside());
        }

        int hand(int thing, int who) {
            int had = holder[thing];
            if (had < 0 || had == who) {
                return NOT_SO;
            }
            holder[thing] = who;
            return had;
        }

        int daysLeft(int thing, int term) {
            return Math.max(1, term - days[thing]);
        }

        /** Things that went to their finders in so many days, as bits. */
        int passDays(int many, int term) {
            int gone = 0;
            for (int i = 0; i < many; i++) {
                gone |= passDay(term);
            }
            return gone;
        }

        private int passDay(int term) {
            int gone = 0;
            for (int t = 0; t < MOST_THINGS; t++) {
                if (!isIn(t)) {
                    continue;
                }
                days[t] = Math.min(MOST_DAYS, days[t] + 1);
                if (days[t] >= term) {
                    putWith(t, finder[t]);
                    gone |= 1 << t;
                }
            }
            day++;
            return gone;
        }
    }

    /** The latest whereabouts that undo() can bring back. */
    private static final class Past {
        private static final int MOST = 12;
        // one slot more than are kept, so that a note which comes to nothing spoils none of them
        private static final int SLOTS = MOST + 1;
        private final Whereabouts[] slots = new Whereabouts[SLOTS];
        private int next = 0;
        private int many = 0;

        Past() {
            for (int i = 0; i < SLOTS; i++) {
                slots[i] = new Whereabouts();
            }
        }

        void note(Whereabouts at) {
            slots[next].become(at);
        }

        void keepNoted() {
            next = (next + 1) % SLOTS;
            many = Math.min(MOST, many + 1);
        }

        boolean bringBack(Whereabouts at) {
            if (many == 0) {
                return false;
            }
            many--;
            next = (next + SLOTS - 1) % SLOTS;
            at.become(slots[next]);
            return true;
        }
    }

    /** A rule, as the order in which its parts are worked out. */
    private static final class Rule {
        private static final String NAMES = "mxywdn";
        private static final int FIRST_NAME = 1000;
        private static final int FIRST_OPERATOR = 2000;
        private static final int TURN_SIGN = 3000;
        private static final int[] PLAIN = {
            1000, 2, 2000 + '*', 1001, 3, 2000 + '*', 2000 + '-', 1002, 2000 + '-'
        };

        private final int[] parts = new int[RULE_SIGNS];
        private final int[] values = new int[RULE_SIGNS];
        private final int[] named = new int[6];
        private int many = 0;

        Rule() {
            becomePlain();
        }

        void becomePlain() {
            System.arraycopy(PLAIN, 0, parts, 0, PLAIN.length);
            many = PLAIN.length;
        }

        void become(Rule as) {
            System.arraycopy(as.parts, 0, parts, 0, RULE_SIGNS);
            many = as.many;
        }

        void add(int part) {
            if (many < parts.length) {
                parts[many] = part;
                many++;
            }
        }

        int valueOf(int both, int hasNot, int untold, int worth, int days, int weekday) {
            named[0] = both;
            named[1] = hasNot;
            named[2] = untold;
            named[3] = worth;
            named[4] = days;
            named[5] = weekday;
            int top = 0;
            for (int i = 0; i < many; i++) {
                int part = parts[i];
                if (part < FIRST_OPERATOR && top < values.length) {
                    values[top] = part < FIRST_NAME ? part : namedValue(part - FIRST_NAME);
                    top++;
                } else if (part == TURN_SIGN && top > 0) {
                    values[top - 1] = -values[top - 1];
                } else if (top > 1) {
                    top--;
                    values[top - 1] = joined(part - FIRST_OPERATOR, values[top - 1], values[top]);
                }
            }
            return top > 0 ? values[0] : 0;
        }

        private int namedValue(int name) {
            return name >= 0 && name < named.length ? named[name] : 0;
        }

        private static int joined(int operator, int a, int b) {
            switch (operator) {
                case '+': return a + b;
                case '-': return a - b;
                case '*': return a * b;
                case '/': return b == 0 ? 0 : a / b;
                case '<': return a < b ? 1 : 0;
                case '>': return a > b ? 1 : 0;
                default: return a == b ? 1 : 0;
            }
        }
    }

    /** Reads a rule; each reading method answers whether it could, and leaves p at the wrong sign if not. */
    private static final class RuleReader {
        private static final int MOST_DEPTH = 4;
        private static final int MOST_DIGITS = 3;
        private final Text text;
        private final Rule into;
        private int stop = 0;
        private int p = 0;

        RuleReader(Text from, Rule rule) {
            text = from;
            into = rule;
        }

        /** -1, or the place of the sign that can't stand there. */
        int readAll() {
            into.many = 0;
            stop = Math.min(text.size, RULE_SIGNS);
            p = 0;
            return readComparison(0) && p == text.size ? NONE : p;
        }

        private int seen() {
            return p < stop ? text.signAt(p) : NONE;
        }

        private boolean readComparison(int depth) {
            if (!readSum(depth)) {
                return false;
            }
            int sign = seen();
            if (sign != '<' && sign != '>' && sign != '=') {
                return true;
            }
            p++;
            if (!readSum(depth)) {
                return false;
            }
            into.add(Rule.FIRST_OPERATOR + sign);
            return true;
        }

        private boolean readSum(int depth) {
            boolean fine = readProduct(depth);
            for (int i = 0; i < RULE_SIGNS && fine && (seen() == '+' || seen() == '-'); i++) {
                int sign = seen();
                p++;
                fine = readProduct(depth);
                // what is added behind a wrong sign is never used: the reading answers false
                into.add(Rule.FIRST_OPERATOR + sign);
            }
            return fine;
        }

        private boolean readProduct(int depth) {
            boolean fine = readSigned(depth);
            for (int i = 0; i < RULE_SIGNS && fine && (seen() == '*' || seen() == '/'); i++) {
                int sign = seen();
                p++;
                fine = readSigned(depth);
                into.add(Rule.FIRST_OPERATOR + sign);
            }
            return fine;
        }

        private boolean readSigned(int depth) {
            boolean turned = false;
            for (int i = 0; i < RULE_SIGNS && seen() == '-'; i++) {
                turned = !turned;
                p++;
            }
            boolean fine = seen() == '(' ? readInBrackets(depth) : readNumber() || readName();
            if (fine && turned) {
                into.add(Rule.TURN_SIGN);
            }
            return fine;
        }

        private boolean readInBrackets(int depth) {
            if (depth >= MOST_DEPTH) {
                return false;
            }
            p++;
            if (!readComparison(depth + 1) || seen() != ')') {
                return false;
            }
            p++;
            return true;
        }

        private boolean readNumber() {
            int number = 0;
            int digits = 0;
            for (; digits < MOST_DIGITS && seen() >= '0' && seen() <= '9'; digits++) {
                number = number * 10 + seen() - '0';
                p++;
            }
            if (digits == 0) {
                return false;
            }
            into.add(number);
            return true;
        }

        private boolean readName() {
            int sign = seen();
            int name = sign < 0 ? NONE : Rule.NAMES.indexOf((char) sign);
            if (name < 0) {
                return false;
            }
            into.add(Rule.FIRST_NAME + name);
            p++;
            return true;
        }
    }

    /** The acts of a year, as THE TEXT tells them. */
    private static final class Acts {
        private static final int LOSE = 'l';
        private static final int FIND = 'f';
        private static final int CLAIM = 'c';
        private static final int GIVE = 'g';
        private static final int PASS = 'd';
        // the shortest acts have two signs
        private static final int MOST = YEAR_SIGNS / 2;

        private final int[] kinds = new int[MOST];
        private final int[] first = new int[MOST];
        private final int[] second = new int[MOST];
        private int many = 0;

        /** -1, or the place of the sign that can't stand there. */
        int readFrom(Text text) {
            int stop = Math.min(text.size, YEAR_SIGNS);
            many = 0;
            int p = 0;
            for (int i = 0; i < MOST && p < stop; i++) {
                int digits = digitsOf(text.signAt(p));
                if (digits == 0) {
                    return p;
                }
                for (int d = 1; d <= digits; d++) {
                    if (p + d >= stop || text.signAt(p + d) < '0' || text.signAt(p + d) > '9') {
                        return p + d;
                    }
                }
                kinds[i] = text.signAt(p);
                first[i] = text.signAt(p + 1) - '0';
                second[i] = digits > 1 ? text.signAt(p + 2) - '0' : 0;
                p += 1 + digits;
                if (kinds[i] == CLAIM) {
                    second[i] = readMarks(text, p, stop);
                    p += Integer.bitCount(second[i]);
                }
                many++;
            }
            return p < text.size ? p : NONE;
        }

        private static int digitsOf(int kind) {
            switch (kind) {
                case LOSE:
                case FIND:
                case GIVE: return 2;
                case CLAIM:
                case PASS: return 1;
                default: return 0;
            }
        }

        private static int readMarks(Text text, int from, int stop) {
            int marks = 0;
            int last = NONE;
            for (int p = from; p < stop; p++) {
                int mark = text.signAt(p) - 'a';
                if (mark <= last || mark >= MARKS) {
                    return marks;
                }
                marks |= 1 << mark;
                last = mark;
            }
            return marks;
        }
    }

    /** Descriptions shared out over things: best holds the most that those from i on get, by things used. */
    private static final class Sharing {
        private static final int SETS = 1 << MOST_THINGS;
        private final int[] described = new int[MOST_SHARES];
        private final int[] gain = new int[MOST_SHARES * MOST_THINGS];
        private final int[] best = new int[(MOST_SHARES + 1) * SETS];

        void workOut(int lines, int inside) {
            for (int used = 0; used < SETS; used++) {
                best[lines * SETS + used] = 0;
            }
            for (int i = lines - 1; i >= 0; i--) {
                for (int used = 0; used <= inside; used++) {
                    if ((used & ~inside) == 0) {
                        best[i * SETS + used] = mostFrom(i, used, inside);
                    }
                }
            }
        }

        private int mostFrom(int i, int used, int inside) {
            int most = best[(i + 1) * SETS + used];
            for (int t = 0; t < MOST_THINGS; t++) {
                if (isOf(inside & ~used, t)) {
                    most = Math.max(most, withThing(i, used, t));
                }
            }
            return most;
        }

        private int withThing(int i, int used, int thing) {
            return gain[i * MOST_THINGS + thing] + best[(i + 1) * SETS + (used | 1 << thing)];
        }

        int leastChoice(int i, int used, int inside) {
            int most = best[i * SETS + used];
            if (best[(i + 1) * SETS + used] == most) {
                return NONE;
            }
            for (int t = 0; t < MOST_THINGS; t++) {
                if (isOf(inside & ~used, t) && withThing(i, used, t) == most) {
                    return t;
                }
            }
            return NONE;
        }
    }

    /** What was said of a thing: marks that it has, marks that it has not. */
    private static final class Hearsay {
        private int has = 0;
        private int hasNot = 0;
        private int many = 0;

        void hear(int mark, boolean isThere) {
            if (isThere) {
                has |= 1 << mark;
            } else {
                hasNot |= 1 << mark;
            }
            many++;
        }

        void clear() {
            has = 0;
            hasNot = 0;
            many = 0;
        }

        boolean isTrueOf(int marks) {
            return (has & ~marks) == 0 && (hasNot & marks) == 0;
        }
    }

    /** Which thing each of all descriptions would get (-1: none). */
    private static final class Survey {
        private static final int COUNTS = MARKS + 1;
        private final int[] got = new int[DESCRIPTIONS];
        private final int[] most = new int[DESCRIPTIONS];
        private final int[] matches = new int[COUNTS * COUNTS];

        void clear() {
            for (int marks = 0; marks < DESCRIPTIONS; marks++) {
                got[marks] = NONE;
            }
        }

        /** A rule asks only how many marks match, so 25 values at most serve for 256 descriptions. */
        void weigh(Rule by, int has, int worth, int days, int weekday) {
            int all = Integer.bitCount(has);
            for (int both = 0; both <= all; both++) {
                for (int hasNot = 0; hasNot <= MARKS - all; hasNot++) {
                    matches[both * COUNTS + hasNot] =
                        by.valueOf(both, hasNot, all - both, worth, days, weekday);
                }
            }
        }

        void offer(int thing, int has, int need) {
            for (int marks = 0; marks < DESCRIPTIONS; marks++) {
                int both = Integer.bitCount(marks & has);
                int match = matches[both * COUNTS + Integer.bitCount(marks) - both];
                if (match >= need && (got[marks] < 0 || match > most[marks])) {
                    got[marks] = thing;
                    most[marks] = match;
                }
            }
        }

        int howManyGet(int thing) {
            int many = 0;
            for (int marks = 0; marks < DESCRIPTIONS; marks++) {
                if (got[marks] == thing) {
                    many++;
                }
            }
            return many;
        }
    }
}
