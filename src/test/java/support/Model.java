import java.math.BigInteger;
import java.util.ArrayDeque;
import java.util.ArrayList;
import java.util.Arrays;
import java.util.Deque;
import java.util.HashMap;
import java.util.List;
import java.util.Map;
import java.util.TreeSet;

/**
 * The document once more, told as slowly and plainly as can be: lists and maps, snapshots by copying, texts by
 * the grammar's own functions, every riddle by trying all. The tests hold BasketEnvoys against it.
 */
final class Model {
    static final int NONE = -1;

    private static final class Fault extends RuntimeException {
        private static final long serialVersionUID = 1L;
        final int kind;
        final int place;

        Fault(int kind, int place) {
            this.kind = kind;
            this.place = place;
        }
    }

    private interface Reckoning {
        int by(int[] facts);
    }

    private record Line(String word, Reckoning value, Reckoning when) { }

    private record Token(String sign, int place) { }

    private static final class Power implements Cloneable {
        int trust;
        int step;
        int nods;
        int treaties;

        Power copy() {
            Power p = new Power();
            p.trust = trust;
            p.step = step;
            p.nods = nods;
            p.treaties = treaties;
            return p;
        }
    }

    private static final class Mute {
        int skill;
        int grief;
        int isFalse;
        int at = NONE;
        int known;
        List<Integer> basket = new ArrayList<>();
        int shown;

        Mute copy() {
            Mute m = new Mute();
            m.skill = skill;
            m.grief = grief;
            m.isFalse = isFalse;
            m.at = at;
            m.known = known;
            m.basket = new ArrayList<>(basket);
            m.shown = shown;
            return m;
        }
    }

    /** What goes back by UNDO. */
    private static final class Flow {
        List<Power> powers = new ArrayList<>();
        List<Mute> mutes = new ArrayList<>();
        int ports = 10;
        int lost;
        int day;
        int state;
        List<int[]> book = new ArrayList<>();

        Flow copy() {
            Flow f = new Flow();
            for (Power p : powers) f.powers.add(p.copy());
            for (Mute m : mutes) f.mutes.add(m.copy());
            f.ports = ports;
            f.lost = lost;
            f.day = day;
            f.state = state;
            f.book = new ArrayList<>(book);
            return f;
        }
    }

    /** What is told by texts and for thought; the image takes it along. */
    private static final class Told {
        List<Line> law = new ArrayList<>();
        Map<Integer, Integer> tongues = new HashMap<>();
        List<int[]> court = new ArrayList<>();
        Map<Integer, List<Integer>> wants = new HashMap<>();
        int[] lines = new int[4];
        List<Integer> row = new ArrayList<>();
        int[] weights = new int[12];
        List<Integer> heard = new ArrayList<>();
        List<Integer> counts = new ArrayList<>();
        int[][] tables = new int[2][9];
        int[][] worths = new int[6][6];
        List<int[]> loads = new ArrayList<>();
        List<int[]> promises = new ArrayList<>();
        int[] hats = new int[8];
        List<int[]> borders = new ArrayList<>();
        List<List<Integer>> cloths = new ArrayList<>(List.of(new ArrayList<>(), new ArrayList<>()));
        List<String> interpreters = new ArrayList<>();

        Told copy() {
            Told t = new Told();
            t.law = new ArrayList<>(law);
            t.tongues = new HashMap<>(tongues);
            t.court = new ArrayList<>(court);
            t.wants = new HashMap<>(wants);
            t.lines = lines.clone();
            t.row = new ArrayList<>(row);
            t.weights = weights.clone();
            t.heard = new ArrayList<>(heard);
            t.counts = new ArrayList<>(counts);
            t.tables = new int[][] {tables[0].clone(), tables[1].clone()};
            for (int i = 0; i < 6; i++) t.worths[i] = worths[i].clone();
            t.loads = new ArrayList<>(loads);
            t.promises = new ArrayList<>(promises);
            t.hats = hats.clone();
            t.borders = new ArrayList<>(borders);
            t.cloths = new ArrayList<>(List.of(new ArrayList<>(cloths.get(0)), new ArrayList<>(cloths.get(1))));
            t.interpreters = new ArrayList<>(interpreters);
            return t;
        }
    }

    private Flow flow = new Flow();
    private Told told = new Told();
    private Flow imageFlow;
    private Told imageTold;
    private final Deque<Flow> undo = new ArrayDeque<>();
    private StringBuilder tape = new StringBuilder();
    private int fault = 0;
    private int faultPlace = NONE;

    // ---- powers, mutes, by hand

    int state(int v) {
        undo.clear();
        int was = flow.state;
        flow.state = v;
        return was;
    }

    int power(int trust) {
        if (trust < 0 || trust > 99 || flow.powers.size() == 10) return NONE;
        undo.clear();
        Power p = new Power();
        p.trust = trust;
        flow.powers.add(p);
        return flow.powers.size() - 1;
    }

    int mute(int skill, int grief, boolean isFalse) {
        if (skill < 0 || skill > 9 || grief < 0 || grief > 9 || flow.mutes.size() == 14) return NONE;
        undo.clear();
        Mute m = new Mute();
        m.skill = skill;
        m.grief = grief;
        m.isFalse = isFalse ? 1 : 0;
        flow.mutes.add(m);
        return flow.mutes.size() - 1;
    }

    boolean set(int what, int who, int v) {
        if (what < 0 || what > 4 || v < 0) return false;
        if (v > new int[] {99, 9, 9, 1, 99}[what]) return false;
        if (what == 0 && !isPower(who) || what >= 1 && what <= 3 && !isMute(who)) return false;
        undo.clear();
        if (what == 0) flow.powers.get(who).trust = v;
        if (what == 1) flow.mutes.get(who).skill = v;
        if (what == 2) flow.mutes.get(who).grief = v;
        if (what == 3) flow.mutes.get(who).isFalse = v;
        if (what == 4) flow.ports = v;
        return true;
    }

    private boolean isPower(int p) {
        return p >= 0 && p < flow.powers.size();
    }

    private boolean isMute(int m) {
        return m >= 0 && m < flow.mutes.size();
    }

    private void keep() {
        undo.addLast(flow.copy());
        if (undo.size() > 6) undo.removeFirst();
    }

    boolean act(int what, int who, int v) {
        if (!isMute(who)) return false;
        Mute m = flow.mutes.get(who);
        boolean home = m.at == NONE;
        if (what == 0 && home && isPower(v)) {
            keep();
            m.at = v;
            m.shown = 0;
            write(flow, 0, who, v);
            return true;
        }
        if (what == 1 && !home) {
            keep();
            m.at = NONE;
            write(flow, 5, who, m.shown);
            return true;
        }
        if (what == 2 && home && v >= 0 && v <= 11 && m.basket.size() < 8) {
            keep();
            m.basket.add(v);
            return true;
        }
        if (what == 3 && home && !m.basket.isEmpty()) {
            keep();
            m.basket.clear();
            return true;
        }
        if (what == 4 && home) {
            keep();
            boolean cries = falls(flow, ask(flow, who, "cries"), false);
            if (cries) m.known = 1;
            write(flow, 6, who, cries ? 1 : 0);
            return true;
        }
        return false;
    }

    private static void write(Flow f, int what, int who, int much) {
        if (f.book != null && f.book.size() < 150) f.book.add(new int[] {f.day, what, who, much});
    }

    private static boolean falls(Flow f, int chance, boolean thought) {
        if (thought) return chance >= 500;
        if (chance <= 0) return false;
        f.state = f.state * 1664525 + 1013904223;
        long unsigned = f.state & 0xffffffffL;
        return (unsigned / 256) % 1000 < chance;
    }

    private int says(int power, int thing) {
        return told.tongues.getOrDefault(power * 100 + thing, thing);
    }

    private int ask(Flow f, int who, String word) {
        Mute m = f.mutes.get(who);
        int[] facts = new int[10];
        facts[0] = m.skill;
        facts[1] = m.grief;
        facts[2] = m.isFalse;
        if (m.at != NONE) {
            facts[3] = f.powers.get(m.at).trust;
            facts[6] = f.powers.get(m.at).step;
            if (!word.equals("cries")) {
                facts[4] = m.basket.get(m.shown);
                facts[5] = says(m.at, facts[4]);
            }
        }
        facts[7] = m.shown;
        facts[8] = f.ports;
        facts[9] = f.day;
        int v = word.equals("nods") ? 60 * m.skill + 5 * facts[3] : word.equals("wins") ? 1 : m.isFalse == 1 ? 50 * m.grief : 0;
        for (Line line : told.law) {
            if (line.word.equals(word) && (line.when == null || line.when.by(facts) != 0)) {
                v = line.value.by(facts);
                break;
            }
        }
        int most = word.equals("wins") ? 99 : 1000;
        return v < 0 ? 0 : v > most ? most : v;
    }

    private void day(Flow f, boolean thought) {
        for (int[] c : told.court) {
            if (c[0] != f.day) continue;
            if (c[1] == 0 && f.mutes.get(c[2]).at == NONE) {
                f.mutes.get(c[2]).at = c[3];
                f.mutes.get(c[2]).shown = 0;
                write(f, 0, c[2], c[3]);
            } else if (c[1] == 1 && f.mutes.get(c[2]).at != NONE) {
                f.mutes.get(c[2]).at = NONE;
                write(f, 5, c[2], f.mutes.get(c[2]).shown);
            } else if (c[1] == 2) {
                f.powers.get(c[2]).trust = Math.min(99, f.powers.get(c[2]).trust + c[3]);
            } else if (c[1] == 3) {
                f.mutes.get(c[2]).grief = c[3];
            }
        }
        for (int i = 0; i < f.mutes.size(); i++) {
            Mute m = f.mutes.get(i);
            if (m.at == NONE) continue;
            Power p = f.powers.get(m.at);
            if (falls(f, ask(f, i, "cries"), thought)) {
                m.known = 1;
                if (f.ports > 0) {
                    f.ports--;
                    f.lost++;
                }
                p.trust = 0;
                p.step = 0;
                m.at = NONE;
                write(f, 4, i, f.ports);
            } else if (m.shown >= m.basket.size()) {
                m.at = NONE;
                write(f, 5, i, m.shown);
            } else {
                int said = says(m.at, m.basket.get(m.shown));
                if (falls(f, ask(f, i, "nods"), thought)) {
                    p.nods++;
                    write(f, 1, i, said);
                    p.trust = Math.min(99, p.trust + ask(f, i, "wins"));
                    List<Integer> wants = told.wants.get(m.at);
                    if (wants != null) {
                        p.step = wants.get(p.step) == said ? p.step + 1 : 0;
                        if (p.step == wants.size()) {
                            p.treaties++;
                            p.step = 0;
                            write(f, 3, i, m.at);
                        }
                    }
                } else {
                    p.trust = Math.max(0, p.trust - 1);
                    write(f, 2, i, said);
                }
                m.shown++;
            }
        }
        f.day++;
    }

    private static int nodsOf(Flow f) {
        return f.powers.stream().mapToInt(p -> p.nods).sum();
    }

    int days(int n) {
        if (n < 1 || n > 60 || flow.day + n > 9999) return NONE;
        int before = nodsOf(flow);
        for (int i = 0; i < n; i++) {
            keep();
            day(flow, false);
        }
        return nodsOf(flow) - before;
    }

    // ---- texts

    int feed(int a, int b, int c, int d, int e) {
        if (tape.length() + 20 > 400) return NONE;
        for (int v : new int[] {a, b, c, d, e}) {
            for (byte x : BigInteger.valueOf((v & 0xffffffffL) | 0x100000000L).toByteArray()) {
                tape.append((char) (x & 255));
            }
            tape.deleteCharAt(tape.length() - 5);
        }
        return tape.length();
    }

    boolean end(int n) {
        if (n < 0 || n > tape.length()) return false;
        tape.setLength(n);
        return true;
    }

    private List<Token> tokens;
    private int next;

    int text(int k) {
        String text = tape.toString();
        tape = new StringBuilder();
        fault = 0;
        faultPlace = NONE;
        if (k < 0 || k > 3) return NONE;
        String[] words = {
            "nods|cries|wins|when|or|and|not|skill|grief|false|trust|thing|says|step|shown|ports|day",
            "power|thing|says", "on|send|home|gift|mourn", "power|wants",
        };
        tokens = new ArrayList<>();
        java.util.regex.Matcher m = java.util.regex.Pattern
            .compile("[a-zA-Z]+|[0-9]+|[ \n]+|.", java.util.regex.Pattern.DOTALL).matcher(text);
        while (m.find()) {
            String t = m.group();
            if (t.charAt(0) == ' ' || t.charAt(0) == '\n') continue;
            boolean good = t.matches(words[k]) || t.matches("[0-9]{1,4}") || t.matches("[-;+*/()<=>]");
            tokens.add(new Token(good ? t : "?", m.start()));
        }
        tokens.add(new Token("END", text.length()));
        next = 0;
        try {
            int lines;
            if (k == 0) lines = law();
            else if (k == 1) lines = tongues();
            else if (k == 2) lines = court();
            else lines = wants();
            if (k != 0) undo.clear();
            told.lines[k] = lines;
            return lines;
        } catch (Fault f) {
            fault = f.kind;
            faultPlace = f.place;
            return NONE;
        }
    }

    private String here() {
        return tokens.get(next).sign;
    }

    private boolean isNumber() {
        return Character.isDigit(here().charAt(0));
    }

    private Fault at(int kind) {
        return new Fault(kind, tokens.get(next).place);
    }

    private boolean found(String sign) {
        if (!here().equals(sign)) return false;
        next++;
        return true;
    }

    private void need(String sign) {
        if (!found(sign)) throw at(1);
    }

    private int number(int least, int most) {
        if (!isNumber()) throw at(1);
        int v = Integer.parseInt(here());
        if (v < least || v > most) throw at(2);
        next++;
        return v;
    }

    private void start(String keyword, int lines) {
        if (!here().matches(keyword)) throw at(1);
        if (lines == 16) throw at(3);
    }

    private int law() {
        List<Line> law = new ArrayList<>();
        while (!here().equals("END")) {
            start("nods|cries|wins", law.size());
            String word = here();
            next++;
            Reckoning value = e();
            Reckoning when = found("when") ? b(0) : null;
            need(";");
            law.add(new Line(word, value, when));
        }
        told.law = law;
        return law.size();
    }

    private Reckoning b(int open) {
        Reckoning left = a(open);
        while (found("or")) {
            Reckoning l = left;
            Reckoning r = a(open);
            left = facts -> l.by(facts) != 0 || r.by(facts) != 0 ? 1 : 0;
        }
        return left;
    }

    private Reckoning a(int open) {
        Reckoning left = c(open);
        while (found("and")) {
            Reckoning l = left;
            Reckoning r = c(open);
            left = facts -> l.by(facts) != 0 && r.by(facts) != 0 ? 1 : 0;
        }
        return left;
    }

    private Reckoning c(int open) {
        if (here().equals("not") || here().equals("(")) {
            if (open == 8) throw at(3);
            if (found("not")) {
                Reckoning r = c(open + 1);
                return facts -> r.by(facts) == 0 ? 1 : 0;
            }
            next++;
            Reckoning r = b(open + 1);
            need(")");
            return r;
        }
        Reckoning l = e();
        String how = here();
        if (!how.matches("[<=>]")) throw at(1);
        next++;
        Reckoning r = e();
        return facts -> {
            int order = Integer.compare(l.by(facts), r.by(facts));
            return (how.equals("<") ? order < 0 : how.equals("=") ? order == 0 : order > 0) ? 1 : 0;
        };
    }

    private Reckoning e() {
        Reckoning left = t();
        while (here().equals("+") || here().equals("-")) {
            boolean plus = here().equals("+");
            next++;
            Reckoning l = left;
            Reckoning r = t();
            left = facts -> plus ? l.by(facts) + r.by(facts) : l.by(facts) - r.by(facts);
        }
        return left;
    }

    private Reckoning t() {
        Reckoning left = u();
        while (here().equals("*") || here().equals("/")) {
            Reckoning l = left;
            if (found("*")) {
                Reckoning r = u();
                left = facts -> l.by(facts) * r.by(facts);
            } else {
                next++;
                int part = number(1, 9999);
                left = facts -> l.by(facts) / part;
            }
        }
        return left;
    }

    private Reckoning u() {
        if (isNumber()) {
            int v = number(0, 9999);
            return facts -> v;
        }
        int i = List.of("skill", "grief", "false", "trust", "thing", "says", "step", "shown", "ports", "day").indexOf(here());
        if (i < 0) throw at(1);
        next++;
        return facts -> facts[i];
    }

    private int tongues() {
        Map<Integer, Integer> read = new HashMap<>();
        int lines = 0;
        for (; !here().equals("END"); lines++) {
            start("power", lines);
            next++;
            int p = number(0, flow.powers.size() - 1);
            need("thing");
            int t = number(0, 11);
            need("says");
            read.put(100 * p + t, number(0, 15));
            need(";");
        }
        told.tongues = read;
        return lines;
    }

    private int court() {
        List<int[]> read = new ArrayList<>();
        int mutes = flow.mutes.size() - 1;
        int powers = flow.powers.size() - 1;
        while (!here().equals("END")) {
            start("on", read.size());
            next++;
            int day = number(0, 999);
            if (found("send")) read.add(new int[] {day, 0, number(0, mutes), number(0, powers)});
            else if (found("home")) read.add(new int[] {day, 1, number(0, mutes), 0});
            else if (found("gift")) read.add(new int[] {day, 2, number(0, powers), number(1, 99)});
            else if (found("mourn")) read.add(new int[] {day, 3, number(0, mutes), number(0, 9)});
            else throw at(1);
            need(";");
        }
        told.court = read;
        return read.size();
    }

    private int wants() {
        Map<Integer, List<Integer>> read = new HashMap<>();
        int lines = 0;
        for (; !here().equals("END"); lines++) {
            start("power", lines);
            next++;
            int p = number(0, flow.powers.size() - 1);
            need("wants");
            List<Integer> row = new ArrayList<>();
            row.add(number(0, 15));
            while (isNumber()) {
                int before = next;
                int v = number(0, 15);
                if (row.size() == 6) throw new Fault(3, tokens.get(before).place);
                row.add(v);
            }
            need(";");
            read.put(p, row);
        }
        told.wants = read;
        for (Power p : flow.powers) p.step = 0;
        return lines;
    }

    int fault(int what) {
        return what == 0 ? fault : what == 1 ? faultPlace : NONE;
    }

    // ---- questions about what is

    int of(int mute, int what) {
        if (!isMute(mute) || what < 0 || what > 17) return -2;
        Mute m = flow.mutes.get(mute);
        boolean shows = m.at != NONE && m.shown < m.basket.size();
        if (what >= 10) return what - 10 < m.basket.size() ? m.basket.get(what - 10) : NONE;
        if (what == 7) return ask(flow, mute, "cries");
        if (what == 8) return shows ? ask(flow, mute, "nods") : NONE;
        if (what == 9) return shows ? ask(flow, mute, "wins") : NONE;
        return new int[] {m.skill, m.grief, m.isFalse, m.at, m.known, m.basket.size(), m.shown}[what];
    }

    int powerOf(int power, int what) {
        if (!isPower(power)) return -2;
        Power p = flow.powers.get(power);
        List<Integer> wants = told.wants.getOrDefault(power, List.of());
        if (what >= 100 && what < 112) return says(power, what - 100);
        if (what >= 10 && what < 16) return what - 10 < wants.size() ? wants.get(what - 10) : NONE;
        if (what < 0 || what > 5) return -2;
        int who = 0;
        for (int i = 0; i < flow.mutes.size(); i++) if (flow.mutes.get(i).at == power) who += (int) Math.pow(2, i);
        return new int[] {p.trust, p.step, p.nods, p.treaties, wants.size(), who}[what];
    }

    int book(int i, int what) {
        if (i < 0 || i >= flow.book.size() || what < 0 || what > 3) return NONE;
        return flow.book.get(i)[what];
    }

    int look(int what) {
        int away = 0;
        int known = 0;
        for (int i = 0; i < flow.mutes.size(); i++) {
            if (flow.mutes.get(i).at != NONE) away += 1 << i;
            if (flow.mutes.get(i).known == 1) known += 1 << i;
        }
        int[] all = {
            flow.powers.size(), flow.mutes.size(), flow.ports, flow.lost, flow.day, away, known, flow.book.size(),
            flow.state, told.lines[0], told.lines[1], told.lines[2], told.lines[3], undo.size(),
        };
        return what < 0 || what >= all.length ? NONE : all[what];
    }

    // ---- in thought

    int goes(int n, int what) {
        if (n < 1 || n > 60 || what < 0 || what > 3) return NONE;
        Flow f = flow.copy();
        for (int i = 0; i < n; i++) day(f, true);
        if (what == 0) return nodsOf(f);
        if (what == 1) return f.powers.stream().mapToInt(p -> p.treaties).sum();
        if (what == 2) return f.ports;
        return f.powers.stream().mapToInt(p -> p.trust).sum();
    }

    int peace(int power) {
        if (!isPower(power)) return NONE;
        Flow f = flow.copy();
        for (int i = 1; i <= 60; i++) {
            day(f, true);
            if (f.powers.get(power).treaties > flow.powers.get(power).treaties) return i;
        }
        return NONE;
    }

    private static int add(List<Integer> row, int v, boolean can, int most) {
        if (v == NONE) row.clear();
        else if (!can || row.size() == most) return NONE;
        else row.add(v);
        return row.size();
    }

    int shows(int thing) {
        return add(told.row, thing, thing >= 0 && thing <= 11, 8);
    }

    private List<Integer> reads(int power) {
        return told.row.stream().map(t -> says(power, t)).toList();
    }

    int alike(int power) {
        if (!isPower(power)) return NONE;
        int set = 0;
        for (int p = 0; p < flow.powers.size(); p++) if (reads(p).equals(reads(power))) set |= 1 << p;
        return set;
    }

    boolean weighs(int thing, int v) {
        if (thing < 0 || thing > 11 || v < 0 || v > 99) return false;
        told.weights[thing] = v;
        return true;
    }

    /** Tries all rows: each answer is the least weight and how many rows there are. */
    private long[] rows(int power, List<Integer> wants, int i) {
        if (i == wants.size()) return new long[] {0, 1};
        long[] rest = rows(power, wants, i + 1);
        long least = Long.MAX_VALUE;
        long count = 0;
        for (int t = 0; t < 12; t++) {
            if (wants.get(i) == -2 || says(power, t) == wants.get(i)) {
                count += rest[1];
                if (rest[1] > 0) least = Math.min(least, rest[0] + told.weights[t]);
            }
        }
        return new long[] {least, count};
    }

    int lightest(int power, int what) {
        if (!isPower(power) || what < 0 || what > 1) return NONE;
        long[] all = rows(power, told.wants.getOrDefault(power, List.of()), 0);
        return what == 1 ? (int) (all[1] % 1000000007) : all[1] == 0 ? NONE : (int) all[0];
    }

    int hears(int meaning) {
        return add(told.heard, meaning, meaning == -2 || meaning >= 0 && meaning <= 15, 8);
    }

    int heard(int power, int what) {
        if (!isPower(power) || what < 0 || what > 1) return NONE;
        if (what == 0) return (int) (rows(power, told.heard, 0)[1] % 1000000007);
        if (told.heard.size() != told.row.size()) return 0;
        List<Integer> reads = reads(power);
        for (int i = 0; i < reads.size(); i++) {
            if (told.heard.get(i) != -2 && !told.heard.get(i).equals(reads.get(i))) return 0;
        }
        return 1;
    }

    int count(int v) {
        return add(told.counts, v, v >= 1 && v <= 99, 8);
    }

    private final Map<Long, Integer> best = new HashMap<>();

    int signs() {
        best.clear();
        int[] c = told.counts.stream().mapToInt(Integer::intValue).toArray();
        return c.length == 0 ? 0 : leastTree(c, (1 << c.length) - 1);
    }

    /** A tree over a set: parted in two in every way. */
    private int leastTree(int[] counts, int set) {
        if (Integer.bitCount(set) == 1) return 0;
        Integer known = best.get((long) set);
        if (known != null) return known;
        int all = 0;
        for (int i = 0; i < counts.length; i++) if ((set >> i & 1) == 1) all += counts[i];
        int least = Integer.MAX_VALUE;
        for (int part = set - 1 & set; part > 0; part = part - 1 & set) {
            least = Math.min(least, all + leastTree(counts, part) + leastTree(counts, set ^ part));
        }
        best.put((long) set, least);
        return least;
    }

    private static final Map<String, Boolean> FOUND = new HashMap<>();

    int pins(int n, int e) {
        if (n < 1 || n > 20 || e < 0 || e > 1) return NONE;
        for (int q = 0; ; q++) if (finds(q, n, 0, e)) return q;
    }

    /** Whether q pricks find the one: a children without a wrong prick until now, b with one. */
    private static boolean finds(int q, int a, int b, int e) {
        if (a + b <= 1) return true;
        if (q == 0) return false;
        String key = q + " " + a + " " + b + " " + e;
        Boolean known = FOUND.get(key);
        if (known != null) return known;
        boolean found = false;
        for (int x = 0; x <= a && !found; x++) {
            for (int y = 0; y <= b && !found; y++) {
                boolean cry = finds(q - 1, x, e == 0 ? 0 : y + a - x, e);
                found = cry && finds(q - 1, a - x, e == 0 ? 0 : b - y + x, e);
            }
        }
        FOUND.put(key, found);
        return found;
    }

    boolean table(int which, int cell, int v) {
        if (which < 0 || which > 1 || cell < 0 || cell > 8 || v < -9 || v > 9) return false;
        told.tables[which][cell] = v;
        return true;
    }

    int tables(int what) {
        int[] first = told.tables[0];
        int[] second = told.tables[1];
        List<Integer> rests = new ArrayList<>();
        for (int cell = 0; cell < 9; cell++) {
            boolean leaves = false;
            for (int other = 0; other < 9; other++) {
                if (other % 3 == cell % 3 && first[other] > first[cell]) leaves = true;
                if (other / 3 == cell / 3 && second[other] > second[cell]) leaves = true;
            }
            if (!leaves) rests.add(cell);
        }
        if (what == 0) return rests.size();
        if (what == 1) return rests.isEmpty() ? NONE : rests.get(0);
        if (what != 2) return -100;
        int most = -100;
        for (int row = 0; row < 3; row++) {
            int best = Math.max(second[3 * row], Math.max(second[3 * row + 1], second[3 * row + 2]));
            int worst = 100;
            for (int c = 0; c < 3; c++) if (second[3 * row + c] == best) worst = Math.min(worst, first[3 * row + c]);
            most = Math.max(most, worst);
        }
        return most;
    }

    private static final Map<String, BigInteger[]> STOOD = new HashMap<>();

    /** The best of all at each place j behind k, the best of those before it among the first k. */
    private static BigInteger[] chance(int n, int k) {
        return STOOD.computeIfAbsent(n + " " + k, key -> {
            BigInteger above = BigInteger.ZERO;
            BigInteger below = BigInteger.ONE;
            for (int j = k + 1; j <= n; j++) {
                BigInteger a = BigInteger.valueOf(j == 1 ? 1 : k);
                BigInteger b = BigInteger.valueOf(n * (j == 1 ? 1L : j - 1));
                above = above.multiply(b).add(a.multiply(below));
                below = below.multiply(b);
            }
            BigInteger g = above.gcd(below);
            return new BigInteger[] {above.divide(g), below.divide(g)};
        });
    }

    int stand(int n, int k, int what) {
        if (n < 1 || n > 12 || what < 0 || what > 2 || what < 2 && (k < 0 || k >= n)) return NONE;
        if (what < 2) return chance(n, k)[what].intValueExact();
        int best = 0;
        for (int i = 1; i < n; i++) {
            BigInteger[] x = chance(n, i);
            BigInteger[] y = chance(n, best);
            if (x[0].multiply(y[1]).compareTo(y[0].multiply(x[1])) > 0) best = i;
        }
        return best;
    }

    boolean worth(int a, int b, int v) {
        if (a < 0 || a > 5 || b < 0 || b > 5 || v < 0 || v > 99) return false;
        told.worths[a][b] = v;
        return true;
    }

    private static void orders(int n, String begun, List<String> all) {
        if (begun.length() == n) all.add(begun);
        for (char c = '0'; c < '0' + n; c++) if (begun.indexOf(c) < 0 && begun.length() < n) orders(n, begun + c, all);
    }

    int sent(int n, int what) {
        if (n < 1 || n > 6 || what < 0 || what > 1) return NONE;
        List<String> all = new ArrayList<>();
        orders(n, "", all);
        int most = -1;
        int how = 0;
        for (String order : all) {
            int worth = 0;
            for (int i = 0; i < n; i++) worth += told.worths[i][order.charAt(i) - '0'];
            if (worth > most || worth == most && Integer.parseInt(order) < how) {
                most = worth;
                how = Integer.parseInt(order);
            }
        }
        return what == 0 ? most : how;
    }

    int load(int weight, int worth) {
        if (weight == NONE) told.loads.clear();
        else if (weight < 1 || weight > 30 || worth < 0 || worth > 99 || told.loads.size() == 10) return NONE;
        else told.loads.add(new int[] {weight, worth});
        return told.loads.size();
    }

    int carried(int w, int what) {
        if (w < 0 || w > 200 || what < 0 || what > 1) return NONE;
        int most = 0;
        int which = 0;
        for (int set = 0; set < 1 << told.loads.size(); set++) {
            int weight = 0;
            int worth = 0;
            for (int i = 0; i < told.loads.size(); i++) {
                if ((set >> i & 1) == 1) {
                    weight += told.loads.get(i)[0];
                    worth += told.loads.get(i)[1];
                }
            }
            if (weight <= w && worth > most) {
                most = worth;
                which = set;
            }
        }
        return what == 0 ? most : which;
    }

    int promise(int a, int b, int how) {
        if (a == NONE) told.promises.clear();
        else if (a < 0 || a > 7 || b < 0 || b > 7 || a == b || how < 0 || how > 3 || told.promises.size() == 12) return NONE;
        else told.promises.add(new int[] {a, how & 1, b, how / 2});
        return told.promises.size();
    }

    int kept(int what) {
        if (what < 0 || what > 2) return NONE;
        List<Integer> ways = new ArrayList<>();
        for (int set = 0; set < 256; set++) {
            boolean all = true;
            for (int[] p : told.promises) {
                boolean first = (set & 1 << p[0]) != 0 == (p[1] == 1);
                boolean second = (set & 1 << p[2]) != 0 == (p[3] == 1);
                all &= first || second;
            }
            if (all) ways.add(set);
        }
        if (what == 0) return ways.size();
        if (ways.isEmpty()) return what == 1 ? NONE : 0;
        return what == 1 ? ways.get(0) : ways.stream().reduce(255, (x, y) -> x & y);
    }

    boolean hat(int widow, int hats) {
        if (widow < 0 || widow > 7 || hats < 0 || hats > 255) return false;
        told.hats[widow] = hats;
        return true;
    }

    int hats(int n) {
        return n < 1 || n > 8 ? NONE : hatsFrom(0, n, 0);
    }

    private int hatsFrom(int widow, int n, int worn) {
        if (widow == n) return 1;
        int ways = 0;
        for (int h = 0; h < n; h++) {
            if ((worn >> h & 1) == 0 && (told.hats[widow] >> h & 1) == 1) ways += hatsFrom(widow + 1, n, worn | 1 << h);
        }
        return ways;
    }

    int border(int a, int b) {
        if (a == NONE) told.borders.clear();
        else if (a < 0 || a > 7 || b < 0 || b > 7 || a == b || told.borders.size() == 14) return NONE;
        else told.borders.add(new int[] {a, b});
        return told.borders.size();
    }

    int map(int k) {
        if (k < -1 || k > 5) return NONE;
        if (k >= 0) return paint(new int[8], 0, k);
        for (int c = 1; ; c++) if (paint(new int[8], 0, c) > 0) return c;
    }

    private int paint(int[] colours, int land, int k) {
        if (land == 8) return 1;
        int ways = 0;
        for (int c = 1; c <= k; c++) {
            boolean can = true;
            for (int[] b : told.borders) {
                int other = b[0] == land ? b[1] : b[1] == land ? b[0] : 8;
                can &= other >= land || colours[other] != c;
            }
            colours[land] = c;
            if (can) ways += paint(colours, land + 1, k);
        }
        return ways;
    }

    int cloth(int row, int v) {
        if (row < 0 || row > 1) return NONE;
        return add(told.cloths.get(row), v, v >= 0 && v <= 9, 12);
    }

    private static void partsOf(List<Integer> row, int i, String taken, TreeSet<String> all) {
        if (i == row.size()) {
            all.add(taken);
            return;
        }
        partsOf(row, i + 1, taken, all);
        partsOf(row, i + 1, taken + row.get(i), all);
    }

    int cloths(int what) {
        if (what < 0 || what > 2) return NONE;
        List<Integer> first = told.cloths.get(0);
        List<Integer> second = told.cloths.get(1);
        if (what == 2) return changes(first, second);
        TreeSet<String> a = new TreeSet<>();
        TreeSet<String> b = new TreeSet<>();
        partsOf(first, 0, "", a);
        partsOf(second, 0, "", b);
        a.retainAll(b);
        if (what == 0) return a.stream().mapToInt(String::length).max().orElse(0);
        return shortest(first, 0, second, 0);
    }

    private static int shortest(List<Integer> a, int i, List<Integer> b, int j) {
        if (i == a.size()) return b.size() - j;
        if (j == b.size()) return a.size() - i;
        if (a.get(i).equals(b.get(j))) return 1 + shortest(a, i + 1, b, j + 1);
        return 1 + Math.min(shortest(a, i + 1, b, j), shortest(a, i, b, j + 1));
    }

    /** Rows one change away, again and again, would be too many: the changes of all that begin both rows. */
    private static int changes(List<Integer> a, List<Integer> b) {
        Map<String, Integer> known = new HashMap<>();
        for (int i = 0; i <= a.size(); i++) {
            for (int j = 0; j <= b.size(); j++) {
                int least = Math.max(i, j);
                if (i > 0) least = Math.min(least, known.get(i - 1 + " " + j) + 1);
                if (j > 0) least = Math.min(least, known.get(i + " " + (j - 1)) + 1);
                if (i > 0 && j > 0) {
                    least = Math.min(least, known.get(i - 1 + " " + (j - 1)) + (a.get(i - 1).equals(b.get(j - 1)) ? 0 : 1));
                }
                known.put(i + " " + j, least);
            }
        }
        return known.get(a.size() + " " + b.size());
    }

    int interpreter(int row) {
        if (row == NONE) {
            told.interpreters.clear();
            return 0;
        }
        List<String> all = new ArrayList<>();
        orders(5, "", all);
        for (String order : all) {
            if (Integer.parseInt(order) == row && told.interpreters.size() < 6) {
                told.interpreters.add(order);
                return told.interpreters.size();
            }
        }
        return NONE;
    }

    int word(int w) {
        if (w < -1 || w > 4) return NONE;
        if (w >= 0) return Integer.parseInt(round("" + w));
        String words = "01234";
        for (int i = 1; ; i++) {
            words = round(words);
            if (words.equals("01234")) return i;
        }
    }

    private String round(String words) {
        for (String interpreter : told.interpreters) {
            StringBuilder made = new StringBuilder();
            for (char c : words.toCharArray()) made.append(interpreter.charAt(c - '0'));
            words = made.toString();
        }
        return words;
    }

    private static final Map<String, Integer> BEGUN = new HashMap<>();

    int silence(int a, int b, int c, boolean pass) {
        for (int heap : new int[] {a, b, c}) if (heap < 0 || heap > 7) return NONE;
        return begins(new int[] {a, b, c}, pass);
    }

    private static int begins(int[] heaps, boolean pass) {
        String key = Arrays.toString(heaps) + pass;
        if (BEGUN.containsKey(key)) return BEGUN.get(key);
        int least = NONE;
        boolean anything = heaps[0] + heaps[1] + heaps[2] > 0;
        if (pass && anything && begins(heaps, false) == NONE) least = 300;
        for (int h = 2; h >= 0; h--) {
            for (int take = heaps[h]; take >= 1; take--) {
                int[] left = heaps.clone();
                left[h] -= take;
                if (begins(left, pass) == NONE) least = 100 * h + take;
            }
        }
        BEGUN.put(key, least);
        return least;
    }

    // ---- undone, and the image

    boolean undo() {
        if (undo.isEmpty()) return false;
        flow = undo.removeLast();
        return true;
    }

    boolean image(boolean taken) {
        if (taken) {
            imageFlow = flow.copy();
            imageTold = told.copy();
            return true;
        }
        if (imageFlow == null) return false;
        flow = imageFlow.copy();
        told = imageTold.copy();
        undo.clear();
        return true;
    }
}
