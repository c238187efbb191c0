import java.util.ArrayList;
import java.util.Collections;
import java.util.HashSet;
import java.util.List;
import java.util.Set;

// Long runs of calls, the same each time, on a pool and on a model of it that is written from the document in
// the most roundabout way (strings, sets, all ways listed), whose answers must be the same.
public final class PhrasePoolAgainstModel {
    private static final int NONE = -1000000;
    private static final int BAD_INDEX = -1000001;
    private static final int BAD_VALUE = -1000002;
    private static final int BAD_STATE = -1000003;
    private static final int FULL = -1000004;
    private static final int RUNS = 400;
    // No more is promised than 512 calls: a text that is begun at the last of these, and what is asked at the end
    // of a run, come to it.
    private static final int CALLS = 450;

    private static final class Phrase {
        int owner;
        String sentence;
        int target;
        int parent;
        boolean live = true;
        int uses;
    }

    private static final class Note {
        int member;
        int phrase;
        int score;
        int fee;
        int tick;
        boolean paidBack;
        int pool;
        int[] got = new int[6];
    }

    private static final class World {
        List<int[]> members = new ArrayList<>();
        List<Phrase> phrases = new ArrayList<>();
        List<Note> notes = new ArrayList<>();
        int[] settings = {70, 10, 30, 10, 80};
        int tick;
        int account;

        World copy() {
            World w = new World();
            for (int[] m : members) {
                w.members.add(m.clone());
            }
            for (Phrase p : phrases) {
                Phrase q = new Phrase();
                q.owner = p.owner;
                q.sentence = p.sentence;
                q.target = p.target;
                q.parent = p.parent;
                q.live = p.live;
                q.uses = p.uses;
                w.phrases.add(q);
            }
            for (Note n : notes) {
                Note o = new Note();
                o.member = n.member;
                o.phrase = n.phrase;
                o.score = n.score;
                o.fee = n.fee;
                o.tick = n.tick;
                o.paidBack = n.paidBack;
                o.pool = n.pool;
                o.got = n.got.clone();
                w.notes.add(o);
            }
            w.settings = settings.clone();
            w.tick = tick;
            w.account = account;
            return w;
        }
    }

    private static final class Model {
        World w = new World();
        List<World> history = new ArrayList<>();
        String text = "";

        void record() {
            history.add(w.copy());
            if (history.size() > 4) {
                history.remove(0);
            }
        }

        boolean noMember(int m) {
            return m < 0 || m >= w.members.size();
        }

        boolean noPhrase(int p) {
            return p < 0 || p >= w.phrases.size();
        }

        String sentence() {
            return text.replace(" ", "");
        }

        int textFault() {
            for (int i = 0; i < text.length(); i++) {
                if (!text.substring(0, i + 1).matches(" *([a-z] *){0,10}")) {
                    return i;
                }
            }
            return sentence().isEmpty() ? text.length() : NONE;
        }

        boolean fault() {
            return textFault() != NONE;
        }

        static int distance(String a, String b, int[][] known) {
            if (a.isEmpty() || b.isEmpty()) {
                return a.length() + b.length();
            }
            int i = a.length();
            int j = b.length();
            if (known[i][j] == 0) {
                int change = a.charAt(0) == b.charAt(0) ? 0 : 1;
                int least = change + distance(a.substring(1), b.substring(1), known);
                least = Math.min(least, 1 + distance(a.substring(1), b, known));
                least = Math.min(least, 1 + distance(a, b.substring(1), known));
                known[i][j] = least + 1;
            }
            return known[i][j] - 1;
        }

        static int likeness(String a, String b) {
            int n = Math.max(a.length(), b.length());
            return 100 * (n - distance(a, b, new int[11][11])) / n;
        }

        int addMember() {
            if (w.members.size() == 6) {
                return FULL;
            }
            record();
            w.members.add(new int[] {40, 0});
            return w.members.size() - 1;
        }

        int setPrice(int m, int price) {
            if (noMember(m)) {
                return BAD_INDEX;
            }
            if (price < 0 || price > 200) {
                return BAD_VALUE;
            }
            record();
            int before = w.members.get(m)[0];
            w.members.get(m)[0] = price;
            return before;
        }

        int set(int setting, int value) {
            int[][] ranges = {{1, 100}, {0, 50}, {0, 80}, {0, 100}, {1, 100}};
            if (setting < 0 || setting > 4) {
                return BAD_INDEX;
            }
            if (value < ranges[setting][0] || value > ranges[setting][1]) {
                return BAD_VALUE;
            }
            record();
            int before = w.settings[setting];
            w.settings[setting] = value;
            return before;
        }

        boolean conflict(Phrase p, Phrase q) {
            return p.live && q.live && p.sentence.equals(q.sentence) && p.target != q.target;
        }

        int count(int what) {
            if (what < 0 || what > 13) {
                return BAD_VALUE;
            }
            if (what == 13) {
                return text.length();
            }
            if (what >= 8) {
                return w.settings[what - 8];
            }
            int pairs = 0;
            int live = 0;
            for (int i = 0; i < w.phrases.size(); i++) {
                live += w.phrases.get(i).live ? 1 : 0;
                for (int j = 0; j < i; j++) {
                    pairs += conflict(w.phrases.get(i), w.phrases.get(j)) ? 1 : 0;
                }
            }
            int back = 0;
            for (Note n : w.notes) {
                back += n.paidBack ? 1 : 0;
            }
            return new int[] {w.members.size(), w.phrases.size(), live, w.notes.size(), back, w.tick, w.account, pairs}[what];
        }

        int member(int m, int what) {
            if (noMember(m)) {
                return BAD_INDEX;
            }
            if (what < 0 || what > 4) {
                return BAD_VALUE;
            }
            if (what < 2) {
                return w.members.get(m)[what];
            }
            int number = 0;
            if (what == 2) {
                for (Phrase p : w.phrases) {
                    number += p.live && p.owner == m ? 1 : 0;
                }
            }
            for (Note n : w.notes) {
                number += what == 3 && n.member == m ? 1 : 0;
                number += what == 4 && !n.paidBack ? n.got[m] : 0;
            }
            return number;
        }

        int addPhrase(int m, int target, int parent) {
            if (noMember(m) || parent != NONE && noPhrase(parent)) {
                return BAD_INDEX;
            }
            if (target < 0 || target > 999) {
                return BAD_VALUE;
            }
            if (fault() || parent != NONE && !w.phrases.get(parent).live) {
                return BAD_STATE;
            }
            if (w.phrases.size() == 20) {
                return FULL;
            }
            record();
            Phrase p = new Phrase();
            p.owner = m;
            p.sentence = sentence();
            p.target = target;
            p.parent = parent;
            w.phrases.add(p);
            return w.phrases.size() - 1;
        }

        int phrase(int number, int what) {
            if (noPhrase(number)) {
                return BAD_INDEX;
            }
            if (what < 0 || what > 6) {
                return BAD_VALUE;
            }
            Phrase p = w.phrases.get(number);
            int conflicts = 0;
            for (Phrase q : w.phrases) {
                conflicts += conflict(p, q) ? 1 : 0;
            }
            return new int[] {p.owner, p.sentence.length(), p.target, p.parent, p.live ? 1 : 0, p.uses, conflicts}[what];
        }

        int word(int p, int index) {
            if (noPhrase(p)) {
                return BAD_INDEX;
            }
            if (index < 0) {
                return BAD_VALUE;
            }
            String sentence = w.phrases.get(p).sentence;
            return index >= sentence.length() ? NONE : sentence.charAt(index) - 'a';
        }

        int score(int one, int other) {
            return noPhrase(one) || noPhrase(other) ? BAD_INDEX
                : likeness(w.phrases.get(one).sentence, w.phrases.get(other).sentence);
        }

        int agreed() {
            if (fault()) {
                return BAD_STATE;
            }
            int best = NONE;
            int most = 0;
            for (int target = 0; target <= 999; target++) {
                Set<Integer> givers = new HashSet<>();
                for (Phrase p : w.phrases) {
                    if (p.live && p.target == target && p.sentence.equals(sentence())) {
                        givers.add(p.owner);
                    }
                }
                if (givers.size() > most) {
                    most = givers.size();
                    best = target;
                }
            }
            return best;
        }

        int match() {
            if (fault()) {
                return BAD_STATE;
            }
            List<int[]> keys = new ArrayList<>();
            for (int i = 0; i < w.phrases.size(); i++) {
                Phrase p = w.phrases.get(i);
                int score = likeness(p.sentence, sentence());
                if (p.live && score >= w.settings[0]) {
                    keys.add(new int[] {-score, -p.uses, i});
                }
            }
            if (keys.isEmpty()) {
                return NONE;
            }
            return Collections.min(keys, java.util.Arrays::compare)[2];
        }

        int alike(int p) {
            if (noPhrase(p)) {
                return BAD_INDEX;
            }
            return fault() ? BAD_STATE : likeness(w.phrases.get(p).sentence, sentence());
        }

        int feeOf(int m, Phrase p, int score) {
            return p.owner == m ? 0 : w.members.get(p.owner)[0] * score / 100;
        }

        int fee(int m) {
            if (noMember(m)) {
                return BAD_INDEX;
            }
            int found = match();
            return found < 0 ? found : feeOf(m, w.phrases.get(found), alike(found));
        }

        int use(int m) {
            if (noMember(m)) {
                return BAD_INDEX;
            }
            if (fault()) {
                return BAD_STATE;
            }
            if (w.notes.size() == 24) {
                return FULL;
            }
            record();
            int found = match();
            if (found == NONE) {
                return NONE;
            }
            Phrase p = w.phrases.get(found);
            Note n = new Note();
            n.member = m;
            n.phrase = found;
            n.score = alike(found);
            n.fee = feeOf(m, p, n.score);
            n.tick = w.tick;
            n.pool = n.fee * w.settings[1] / 100;
            get(n, p, n.fee - n.pool);
            w.members.get(m)[1] -= n.fee;
            w.account += n.pool;
            for (int i = 0; i < w.members.size(); i++) {
                w.members.get(i)[1] += n.got[i];
            }
            p.uses++;
            w.notes.add(n);
            return w.notes.size() - 1;
        }

        void get(Note n, Phrase p, int amount) {
            int passed = 0;
            if (p.parent != NONE) {
                passed = amount * w.settings[2] / 100;
                get(n, w.phrases.get(p.parent), passed);
            }
            n.got[p.owner] += amount - passed;
        }

        int note(int number, int what) {
            if (number < 0 || number >= w.notes.size()) {
                return BAD_INDEX;
            }
            if (what < 0 || what > 12) {
                return BAD_VALUE;
            }
            Note n = w.notes.get(number);
            return what >= 7 ? n.got[what - 7]
                : new int[] {n.member, n.phrase, n.score, n.fee, n.tick, n.paidBack ? 1 : 0, n.pool}[what];
        }

        // Ends one phrase after the other until no live one has a parent that has ended; returns {ended, paid back}.
        int[] end(int number) {
            Set<Integer> ended = new HashSet<>();
            w.phrases.get(number).live = false;
            ended.add(number);
            boolean again = true;
            while (again) {
                again = false;
                for (int i = w.phrases.size() - 1; i >= 0; i--) {
                    Phrase p = w.phrases.get(i);
                    if (p.live && p.parent != NONE && !w.phrases.get(p.parent).live) {
                        again = true;
                        if (likeness(p.sentence, w.phrases.get(p.parent).sentence) >= w.settings[4]) {
                            p.live = false;
                            ended.add(i);
                        } else {
                            p.parent = NONE;
                        }
                    }
                }
            }
            int sum = 0;
            for (Note n : w.notes) {
                if (!n.paidBack && ended.contains(n.phrase) && n.tick >= w.tick - w.settings[3]) {
                    n.paidBack = true;
                    sum += n.fee;
                    w.members.get(n.member)[1] += n.fee;
                    w.account -= n.pool;
                    for (int i = 0; i < w.members.size(); i++) {
                        w.members.get(i)[1] -= n.got[i];
                    }
                }
            }
            return new int[] {ended.size(), sum};
        }

        int retract(int p) {
            if (noPhrase(p)) {
                return BAD_INDEX;
            }
            if (!w.phrases.get(p).live) {
                return BAD_STATE;
            }
            record();
            return end(p)[0];
        }

        int wouldPayBack(int p) {
            if (noPhrase(p)) {
                return BAD_INDEX;
            }
            if (!w.phrases.get(p).live) {
                return BAD_STATE;
            }
            World before = w.copy();
            int sum = end(p)[1];
            w = before;
            return sum;
        }

        int pass(int ticks) {
            if (ticks < 1 || ticks > 100) {
                return BAD_VALUE;
            }
            if (w.tick + ticks > 10000) {
                return FULL;
            }
            record();
            w.tick += ticks;
            return w.tick;
        }

        // Tries all ways, each as its cost, its number of phrases, and their numbers: the least is the best. Of live
        // phrases with the same owner and sentence the first alone is tried: the others cost the same.
        void listWays(int m, String rest, List<Integer> way, List<int[]> ways) {
            if (rest.isEmpty()) {
                int[] key = new int[2 + way.size()];
                key[1] = way.size();
                for (int i = 0; i < way.size(); i++) {
                    key[0] += feeOf(m, w.phrases.get(way.get(i)), 100);
                    key[2 + i] = way.get(i);
                }
                if (ways.isEmpty() || java.util.Arrays.compare(key, ways.get(0)) < 0) {
                    ways.clear();
                    ways.add(key);
                }
                return;
            }
            for (int i = 0; i < w.phrases.size(); i++) {
                Phrase p = w.phrases.get(i);
                boolean firstLike = true;
                for (int j = 0; j < i; j++) {
                    Phrase q = w.phrases.get(j);
                    firstLike &= !(q.live && q.owner == p.owner && q.sentence.equals(p.sentence));
                }
                if (p.live && firstLike && rest.startsWith(p.sentence)) {
                    way.add(i);
                    listWays(m, rest.substring(p.sentence.length()), way, ways);
                    way.remove(way.size() - 1);
                }
            }
        }

        int[] bestWay(int m) {
            List<int[]> ways = new ArrayList<>();
            listWays(m, sentence(), new ArrayList<>(), ways);
            return ways.isEmpty() ? null : ways.get(0);
        }

        int cheapest(int m) {
            if (noMember(m)) {
                return BAD_INDEX;
            }
            if (fault()) {
                return BAD_STATE;
            }
            int[] way = bestWay(m);
            return way == null ? NONE : way[0];
        }

        int piece(int m, int index) {
            if (noMember(m)) {
                return BAD_INDEX;
            }
            if (index < 0) {
                return BAD_VALUE;
            }
            if (fault()) {
                return BAD_STATE;
            }
            int[] way = bestWay(m);
            return way == null || index >= way[1] ? NONE : way[2 + index];
        }

        int type(int code) {
            if (code < 0 || code > 255) {
                return BAD_VALUE;
            }
            if (text.length() == 40) {
                return FULL;
            }
            text += (char) code;
            return text.length();
        }

        int clearText() {
            int length = text.length();
            text = "";
            return length;
        }

        int undo() {
            if (history.isEmpty()) {
                return BAD_STATE;
            }
            w = history.remove(history.size() - 1);
            return history.size();
        }

        long digest() {
            long h = 61;
            for (int what = 0; what <= 12; what++) {
                h = 31 * h + count(what);
            }
            for (int m = 0; m < w.members.size(); m++) {
                for (int what = 0; what <= 4; what++) {
                    h = 31 * h + member(m, what);
                }
            }
            for (int p = 0; p < w.phrases.size(); p++) {
                for (int what = 0; what <= 6; what++) {
                    h = 31 * h + phrase(p, what);
                }
                for (int i = 0; i < w.phrases.get(p).sentence.length(); i++) {
                    h = 31 * h + word(p, i);
                }
            }
            for (int n = 0; n < w.notes.size(); n++) {
                for (int what = 0; what <= 12; what++) {
                    h = 31 * h + note(n, what);
                }
            }
            return h;
        }
    }

    private static final String[] NAMES = {"addMember", "setPrice", "set", "count", "member", "addPhrase", "phrase", "word",
        "score", "agreed", "match", "alike", "fee", "use", "note", "retract", "wouldPayBack", "pass", "cheapest", "piece",
        "type", "clearText", "textFault", "undo", "digest"};
    // How often each method is called.
    private static final int[] WEIGHTS = {3, 5, 6, 4, 6, 30, 6, 4, 6, 4, 6, 4, 4, 28, 8, 5, 7, 6, 7, 12, 0, 0, 5, 4, 12};

    private static long seed = 1;
    private static int wrong = 0;
    private static final int[] answered = new int[NAMES.length];

    private static int next(int bound) {
        seed = seed * 6364136223846793005L + 1442695040888963407L;
        return (int) Math.floorMod(seed >>> 33, (long) bound);
    }

    public static void main(String[] args) {
        for (int run = 1; run <= RUNS && wrong == 0; run++) {
            seed = run;
            play(run);
        }
        for (int method = 0; method < NAMES.length; method++) {
            if (answered[method] < 100) {
                wrong++;
                System.out.println(NAMES[method] + " was answered without an error " + answered[method] + " times alone");
            }
        }
        System.out.println(RUNS + " runs, " + (wrong == 0 ? "each answer as the model's" : "not as the model"));
        if (wrong != 0) {
            System.exit(1);
        }
    }

    private static void play(int run) {
        PhrasePool pool = new PhrasePool();
        Model model = new Model();
        int letters = 1 + next(3);
        int members = next(7);
        for (int call = 0; call < CALLS && wrong == 0;) {
            if (call < members) {
                due(run, call, 0, 0, 0, 0, pool, model);
                call++;
            } else if (next(3) == 0) {
                call += writeText(run, call, letters, pool, model);
            } else {
                int method = choose();
                int[] a = arguments(method, model);
                due(run, call, method, a[0], a[1], a[2], pool, model);
                call++;
            }
        }
        if (wrong == 0) {
            due(run, CALLS, 24, 0, 0, 0, pool, model);
            money(run, pool);
        }
    }

    private static void money(int run, PhrasePool pool) {
        long all = pool.count(6);
        for (int member = 0; member < pool.count(0); member++) {
            all += pool.member(member, 1);
        }
        if (all != 0) {
            wrong++;
            System.out.println("run " + run + ": of the money " + all + " is too much");
        }
    }

    private static int writeText(int run, int call, int letters, PhrasePool pool, Model model) {
        int calls = 0;
        if (next(8) != 0) {
            due(run, call, 21, 0, 0, 0, pool, model);
            calls++;
        }
        int length = next(40) == 0 ? 45 : next(3) == 0 ? 1 + next(2) : 2 + next(9);
        for (int i = 0; i < length; i++) {
            int code = 'a' + next(letters + (next(20) == 0 ? 5 : 0));
            code = next(25) == 0 ? ' ' : code;
            code = next(150) == 0 ? strange(300) : code;
            due(run, call + i, 20, code, 0, 0, pool, model);
        }
        return calls + length;
    }

    private static int choose() {
        int sum = 0;
        for (int weight : WEIGHTS) {
            sum += weight;
        }
        int left = next(sum);
        int method = 0;
        while (left >= WEIGHTS[method]) {
            left -= WEIGHTS[method];
            method++;
        }
        return method;
    }

    private static int strange(int bound) {
        int[] odd = {-1, Integer.MIN_VALUE, Integer.MAX_VALUE, NONE, bound, 96, 123, 0, 255, 256, bound + 1};
        return odd[next(odd.length)];
    }

    // Mostly in its range, now and then beyond it.
    private static int number(int bound) {
        return next(25) == 0 ? strange(bound) : next(Math.max(1, bound));
    }

    private static int[] arguments(int method, Model model) {
        int members = model.w.members.size();
        int phrases = model.w.phrases.size();
        switch (NAMES[method]) {
            case "setPrice":
                return new int[] {number(members), number(201), 0};
            case "set":
                int setting = number(5);
                int[] most = {101, 51, 81, 101, 101};
                return new int[] {setting, number(setting >= 0 && setting < 5 ? most[setting] : 100), 0};
            case "count":
                return new int[] {number(14), 0, 0};
            case "member":
                return new int[] {number(members), number(5), 0};
            case "addPhrase":
                return new int[] {number(members), number(next(3) == 0 ? 1000 : 3), next(3) == 0 ? NONE : number(phrases)};
            case "phrase":
                return new int[] {number(phrases), number(7), 0};
            case "word":
                return new int[] {number(phrases), number(11), 0};
            case "score":
                return new int[] {number(phrases), number(phrases), 0};
            case "note":
                return new int[] {number(model.w.notes.size()), number(13), 0};
            case "alike":
            case "retract":
            case "wouldPayBack":
                return new int[] {number(phrases), 0, 0};
            case "pass":
                return new int[] {next(3) == 0 ? number(102) : 1 + next(4), 0, 0};
            case "fee":
            case "use":
            case "cheapest":
                return new int[] {number(members), 0, 0};
            case "piece":
                return new int[] {number(members), number(next(2) == 0 ? 3 : 11), 0};
            default:
                return new int[] {0, 0, 0};
        }
    }

    private static void due(int run, int call, int method, int a, int b, int c, PhrasePool pool, Model model) {
        long want = ofModel(model, method, a, b, c);
        long got = ofPool(pool, method, a, b, c);
        if (want > NONE || want < FULL) {
            answered[method]++;
        }
        if (want != got) {
            wrong++;
            System.out.println("run " + run + ", call " + call + ": " + NAMES[method] + "(" + a + ", " + b + ", " + c
                + ") answered " + got + ", the model " + want);
        }
    }

    private static long ofPool(PhrasePool x, int method, int a, int b, int c) {
        switch (NAMES[method]) {
            case "addMember": return x.addMember();
            case "setPrice": return x.setPrice(a, b);
            case "set": return x.set(a, b);
            case "count": return x.count(a);
            case "member": return x.member(a, b);
            case "addPhrase": return x.addPhrase(a, b, c);
            case "phrase": return x.phrase(a, b);
            case "word": return x.word(a, b);
            case "score": return x.score(a, b);
            case "agreed": return x.agreed();
            case "match": return x.match();
            case "alike": return x.alike(a);
            case "fee": return x.fee(a);
            case "use": return x.use(a);
            case "note": return x.note(a, b);
            case "retract": return x.retract(a);
            case "wouldPayBack": return x.wouldPayBack(a);
            case "pass": return x.pass(a);
            case "cheapest": return x.cheapest(a);
            case "piece": return x.piece(a, b);
            case "type": return x.type(a);
            case "clearText": return x.clearText();
            case "textFault": return x.textFault();
            case "undo": return x.undo();
            default: return x.digest();
        }
    }

    private static long ofModel(Model x, int method, int a, int b, int c) {
        switch (NAMES[method]) {
            case "addMember": return x.addMember();
            case "setPrice": return x.setPrice(a, b);
            case "set": return x.set(a, b);
            case "count": return x.count(a);
            case "member": return x.member(a, b);
            case "addPhrase": return x.addPhrase(a, b, c);
            case "phrase": return x.phrase(a, b);
            case "word": return x.word(a, b);
            case "score": return x.score(a, b);
            case "agreed": return x.agreed();
            case "match": return x.match();
            case "alike": return x.alike(a);
            case "fee": return x.fee(a);
            case "use": return x.use(a);
            case "note": return x.note(a, b);
            case "retract": return x.retract(a);
            case "wouldPayBack": return x.wouldPayBack(a);
            case "pass": return x.pass(a);
            case "cheapest": return x.cheapest(a);
            case "piece": return x.piece(a, b);
            case "type": return x.type(a);
            case "clearText": return x.clearText();
            case "textFault": return x.textFault();
            case "undo": return x.undo();
            default: return x.digest();
        }
    }
}
