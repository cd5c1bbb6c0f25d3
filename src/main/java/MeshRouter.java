/**
 * A router of a service mesh: rules find the services of a request, weights split the requests
 * among them, policies pick the backends, and marked requests can be played again.
 *
 * <p>All rows are made with the object; no call makes any.
 */
public final class MeshRouter {
    public static final int NONE = -1;
    public static final int BAD_ARGUMENT = -2;
    public static final int FULL = -3;
    public static final int NO_ROUTE = -4;
    public static final int NO_BACKEND = -5;
    public static final int FAILED = -6;
    public static final int BAD_TEXT = -7;

    private static final int SERVICES = 4;
    private static final int ZONES = 3;
    private static final int HEADERS = 10;
    private static final int BACKEND_LIMIT = 12;
    private static final int RULE_LIMIT = 8;
    private static final int TARGET_LIMIT = 3;
    private static final int ATTEMPT_LIMIT = 4;
    private static final int TEXT_LIMIT = 40;
    private static final int RECORD_LIMIT = 60;
    private static final int TICK_LIMIT = 50;
    private static final int WEIGHT_LIMIT = 9;
    private static final int PATTERN_LIMIT = 255;
    private static final int TOKEN_LIMIT = 1000;
    private static final int TOKENS_PER_ATTEMPT = 100;
    private static final int SPILL_STEP = 100;

    private static final int ROUNDS = 0;
    private static final int LEAST_USED = 1;
    private static final int STICKY = 2;

    private static final int WITHOUT_SHADOWS = 0;
    private static final int WITHOUT_FURTHER_ATTEMPTS = 1;
    private static final int WITHOUT_EJECTION = 2;
    private static final int WITH_ROUNDS = 3;
    private static final int WITH_LEAST_ZONE_LIMIT = 4;

    private static final int UNREACHABLE_LIMIT = 1 << 30;

    private static final int NO_ERROR = 0;
    private static final int SYNTAX_ERROR = -100;
    private static final int TICK = -2;

    private final Mesh mesh = new Mesh();
    private final Mesh marked = new Mesh();
    private final Mesh saved = new Mesh();
    private final Mesh trial = new Mesh();
    private final Recording recording = new Recording();
    private final Text typed = new Text();
    private final Text printout = new Text();
    private final RuleReader reader = new RuleReader(typed);
    private boolean hasSaved;

    public MeshRouter() {
    }

    public int addBackend(int service, int zone, int weight) {
        if (!isService(service) || !isZone(zone) || !isWithin(weight, 0, WEIGHT_LIMIT)) {
            return BAD_ARGUMENT;
        }
        if (mesh.backendCount >= BACKEND_LIMIT) {
            return FULL;
        }
        recording.stop();
        return mesh.takeBackend(service, zone, weight);
    }

    public int setWeight(int backend, int weight) {
        if (!mesh.hasBackend(backend)) {
            return NONE;
        }
        if (!isWithin(weight, 0, WEIGHT_LIMIT)) {
            return BAD_ARGUMENT;
        }
        recording.stop();
        int previous = mesh.backends[backend].weight;
        mesh.backends[backend].weight = weight;
        return previous;
    }

    public int setPattern(int backend, int pattern) {
        if (!mesh.hasBackend(backend)) {
            return NONE;
        }
        if (!isWithin(pattern, 0, PATTERN_LIMIT)) {
            return BAD_ARGUMENT;
        }
        recording.stop();
        int previous = mesh.backends[backend].pattern;
        mesh.backends[backend].pattern = pattern;
        return previous;
    }

    public int configure(int service, int policy, int limit, int time, int share, int ratio) {
        boolean good = isService(service) && isWithin(policy, ROUNDS, STICKY)
                && isWithin(limit, 1, 9) && isWithin(time, 1, 20)
                && isWithin(share, 0, 100) && isWithin(ratio, 0, 100);
        if (!good) {
            return BAD_ARGUMENT;
        }
        recording.stop();
        Service set = mesh.services[service];
        int previous = set.policy;
        set.policy = policy;
        set.failureLimit = limit;
        set.ejectionTime = time;
        set.ejectionShare = share;
        set.ratio = ratio;
        return previous;
    }

    public int setZoneLimit(int limit) {
        if (!isWithin(limit, 1, 100)) {
            return BAD_ARGUMENT;
        }
        recording.stop();
        int previous = mesh.zoneLimit;
        mesh.zoneLimit = limit;
        return previous;
    }

    public int append(int code, int count) {
        if (!isWithin(code, 0, 127) || !isWithin(count, 1, TEXT_LIMIT)) {
            return BAD_ARGUMENT;
        }
        if (typed.length + count > TEXT_LIMIT) {
            return FULL;
        }
        for (int i = 0; i < count; i++) {
            typed.put(code);
        }
        return typed.length;
    }

    public int addRule() {
        int errorOffset = reader.read();
        typed.clear();
        if (errorOffset != NONE) {
            return SYNTAX_ERROR - errorOffset;
        }
        if (mesh.ruleCount >= RULE_LIMIT) {
            return FULL;
        }
        recording.stop();
        return mesh.takeRule(reader.draft);
    }

    public int removeRule(int rule) {
        if (!mesh.hasRule(rule)) {
            return NONE;
        }
        recording.stop();
        mesh.shiftRule(rule, mesh.ruleCount - 1);
        mesh.ruleCount--;
        return mesh.ruleCount;
    }

    public int moveRule(int rule, int position) {
        if (!mesh.hasRule(rule)) {
            return NONE;
        }
        if (!mesh.hasRule(position)) {
            return BAD_ARGUMENT;
        }
        recording.stop();
        mesh.shiftRule(rule, position);
        return Math.abs(rule - position);
    }

    public int match(int header) {
        int error = requestError(header, 0);
        return error != NO_ERROR ? error : mesh.findRule(typed, header);
    }

    public int request(int header, int zone) {
        int error = requestError(header, zone);
        int rule = error != NO_ERROR ? NONE : mesh.findRule(typed, header);
        typed.clear();
        if (error != NO_ERROR) {
            return error;
        }
        int answer = mesh.answer(rule, header, zone);
        recording.addRequest(rule, header, zone, answer);
        return answer;
    }

    public int foresee(int header, int zone) {
        int error = requestError(header, zone);
        if (error != NO_ERROR) {
            return error;
        }
        trial.copyFrom(mesh);
        return trial.answer(mesh.findRule(typed, header), header, zone);
    }

    public int tick(int count) {
        if (!isWithin(count, 1, TICK_LIMIT)) {
            return BAD_ARGUMENT;
        }
        for (int i = 0; i < count; i++) {
            mesh.passTick();
        }
        recording.addTicks(count);
        return mesh.time;
    }

    public int backend(int backend, int what) {
        return mesh.hasBackend(backend) ? mesh.backends[backend].property(what) : NONE;
    }

    public int service(int service, int what) {
        return isService(service) ? mesh.serviceProperty(service, what) : BAD_ARGUMENT;
    }

    public int remembered(int service, int header) {
        if (!isService(service) || !isHeader(header)) {
            return BAD_ARGUMENT;
        }
        return mesh.services[service].kept[header];
    }

    public int target(int rule, int target, int what) {
        if (!mesh.hasRule(rule) || !isWithin(target, 0, mesh.rules[rule].targetCount - 1)) {
            return NONE;
        }
        return mesh.rules[rule].targets[target].property(what);
    }

    public int trace(int index, int what) {
        if (!isWithin(index, 0, mesh.trail.length - 1)) {
            return NONE;
        }
        return isWithin(what, 0, Trail.PARTS - 1) ? mesh.trail.parts[index][what] : BAD_ARGUMENT;
    }

    public int count(int what) {
        switch (what) {
            case 11: return recording.length;
            case 12: return mesh.trail.length;
            case 13: return typed.length;
            default: return mesh.property(what);
        }
    }

    public int print(int rule) {
        if (!mesh.hasRule(rule)) {
            return NONE;
        }
        mesh.rules[rule].printTo(printout);
        return printout.length;
    }

    public int printed(int index) {
        return printout.signAt(index);
    }

    public int mark() {
        marked.copyFrom(mesh);
        recording.start();
        return mesh.backendCount;
    }

    public int play(int condition) {
        int error = playError(condition);
        if (error != NO_ERROR) {
            return error;
        }
        playAgain(condition);
        return recording.changedAnswers();
    }

    public int answeredIf(int condition) {
        int error = playError(condition);
        if (error != NO_ERROR) {
            return error;
        }
        playAgain(condition);
        return recording.answersByBackends();
    }

    public int save() {
        saved.copyFrom(mesh);
        hasSaved = true;
        return mesh.backendCount;
    }

    public int restore() {
        if (!hasSaved) {
            return NONE;
        }
        recording.stop();
        mesh.copyFrom(saved);
        mesh.trail.length = 0;
        return mesh.backendCount;
    }

    private int requestError(int header, int zone) {
        if (!isHeader(header) || !isZone(zone)) {
            return BAD_ARGUMENT;
        }
        return typed.isPath() ? NO_ERROR : BAD_TEXT;
    }

    private int playError(int condition) {
        if (!isWithin(condition, WITHOUT_SHADOWS, WITH_LEAST_ZONE_LIMIT)) {
            return BAD_ARGUMENT;
        }
        return recording.running ? NO_ERROR : NONE;
    }

    private void playAgain(int condition) {
        trial.copyFrom(marked);
        trial.impose(condition);
        for (int step = 0; step < recording.length; step++) {
            if (recording.rules[step] == TICK) {
                trial.passTick();
            } else {
                recording.replies[step] = trial.answer(
                        recording.rules[step], recording.headers[step], recording.zones[step]);
            }
        }
    }

    private static boolean isWithin(int value, int least, int greatest) {
        return value >= least && value <= greatest;
    }

    private static boolean isService(int service) {
        return isWithin(service, 0, SERVICES - 1);
    }

    private static boolean isZone(int zone) {
        return isWithin(zone, 0, ZONES - 1);
    }

    private static boolean isHeader(int header) {
        return isWithin(header, 0, HEADERS - 1);
    }

    private static boolean isPathSign(int sign) {
        return sign == '/' || isWithin(sign, 'a', 'z');
    }

    /** Says whether attempt number {@code attempt} succeeds by the pattern. */
    private static boolean succeeds(int pattern, int attempt) {
        return (pattern >> (attempt & 7) & 1) == 1;
    }

    /** What is chosen by weights: a backend among backends, or a target among targets. */
    private abstract static class Weighted {
        int weight;
        int credit;
        boolean candidate;

        /** Chooses one of the candidates among the first elements; NONE if there is none. */
        static int chooseByWeights(Weighted[] elements, int count) {
            int chosen = NONE;
            int sum = 0;
            for (int i = 0; i < count && i < elements.length; i++) {
                Weighted element = elements[i];
                if (element.candidate) {
                    element.credit += element.weight;
                    sum += element.weight;
                    if (chosen == NONE || element.credit > elements[chosen].credit) {
                        chosen = i;
                    }
                }
            }
            if (chosen != NONE) {
                elements[chosen].credit -= sum;
            }
            return chosen;
        }
    }

    private static final class Backend extends Weighted {
        private int service;
        private int zone;
        private int pattern;
        private int attempts;
        private int successes;
        private int failureRun;
        private int ejections;
        private int ejectedFor;
        private int shadowAttempts;
        private int shadowSuccesses;
        private boolean attempted;

        /** Makes this a new backend, whatever it was: a place is used again after restore. */
        void begin(int itsService, int itsZone, int itsWeight) {
            service = itsService;
            zone = itsZone;
            weight = itsWeight;
            credit = 0;
            pattern = PATTERN_LIMIT;
            attempts = 0;
            successes = 0;
            failureRun = 0;
            ejections = 0;
            ejectedFor = 0;
            shadowAttempts = 0;
            shadowSuccesses = 0;
        }

        void copyFrom(Backend other) {
            service = other.service;
            zone = other.zone;
            weight = other.weight;
            credit = other.credit;
            pattern = other.pattern;
            attempts = other.attempts;
            successes = other.successes;
            failureRun = other.failureRun;
            ejections = other.ejections;
            ejectedFor = other.ejectedFor;
            shadowAttempts = other.shadowAttempts;
            shadowSuccesses = other.shadowSuccesses;
        }

        boolean isMemberOf(int someService) {
            return service == someService && weight > 0;
        }

        boolean isAvailableIn(int someService) {
            return service == someService && weight > 0 && ejectedFor == 0;
        }

        /** Compares the quotients of attempts and weight, without dividing. */
        boolean isLessUsedThan(Backend other) {
            return attempts * other.weight < other.attempts * weight;
        }

        boolean attempt() {
            boolean succeeded = succeeds(pattern, attempts);
            attempted = true;
            attempts++;
            if (succeeded) {
                successes++;
                failureRun = 0;
            } else {
                failureRun++;
            }
            return succeeded;
        }

        void attemptAsShadow() {
            if (succeeds(pattern, shadowAttempts)) {
                shadowSuccesses++;
            }
            shadowAttempts++;
        }

        void eject(int time) {
            ejections++;
            failureRun = 0;
            ejectedFor = time * ejections;
        }

        int property(int what) {
            switch (what) {
                case 0: return service;
                case 1: return zone;
                case 2: return weight;
                case 3: return pattern;
                case 4: return credit;
                case 5: return attempts;
                case 6: return successes;
                case 7: return failureRun;
                case 8: return ejections;
                case 9: return ejectedFor;
                case 10: return shadowAttempts;
                case 11: return shadowSuccesses;
                default: return BAD_ARGUMENT;
            }
        }
    }

    private static final class Service {
        private int policy = ROUNDS;
        private int failureLimit = 3;
        private int ejectionTime = 5;
        private int ejectionShare = 50;
        private int ratio = 20;
        private int tokens = 300;
        private int chosen;
        private int answered;
        private final int[] spills = new int[ZONES];
        private final int[] kept = new int[HEADERS];

        Service() {
            for (int i = 0; i < HEADERS; i++) {
                kept[i] = NONE;
            }
        }

        void copyFrom(Service other) {
            policy = other.policy;
            failureLimit = other.failureLimit;
            ejectionTime = other.ejectionTime;
            ejectionShare = other.ejectionShare;
            ratio = other.ratio;
            tokens = other.tokens;
            chosen = other.chosen;
            answered = other.answered;
            for (int i = 0; i < ZONES; i++) {
                spills[i] = other.spills[i];
            }
            for (int i = 0; i < HEADERS; i++) {
                kept[i] = other.kept[i];
            }
        }

        void earnTokens() {
            tokens = Math.min(TOKEN_LIMIT, tokens + ratio);
        }

        /** Says whether a request stays in its zone, where near of the whole weight is left. */
        boolean staysNear(int zone, int near, int whole, int zoneLimit) {
            int wanted = zoneLimit * whole;
            if (wanted <= 0 || 100 * near >= wanted) {
                return true;
            }
            spills[zone] += 10000 * near / wanted;
            if (spills[zone] < SPILL_STEP) {
                return false;
            }
            spills[zone] -= SPILL_STEP;
            return true;
        }
    }

    private static final class Target extends Weighted {
        private int service;
        private int timesChosen;

        void begin(int itsService, int itsWeight) {
            service = itsService;
            weight = itsWeight;
            credit = 0;
            timesChosen = 0;
        }

        void copyFrom(Target other) {
            service = other.service;
            weight = other.weight;
            credit = other.credit;
            timesChosen = other.timesChosen;
        }

        int property(int what) {
            switch (what) {
                case 0: return service;
                case 1: return weight;
                case 2: return credit;
                case 3: return timesChosen;
                default: return BAD_ARGUMENT;
            }
        }
    }

    /** At most 40 characters; what is put behind them is dropped. */
    private static final class Text {
        private final char[] signs = new char[TEXT_LIMIT];
        private int length;

        void clear() {
            length = 0;
        }

        void put(int sign) {
            if (length < TEXT_LIMIT) {
                signs[length] = (char) sign;
                length++;
            }
        }

        void putDigit(int digit) {
            put('0' + digit);
        }

        void putAll(Text other) {
            for (int i = 0; i < other.length; i++) {
                put(other.signs[i]);
            }
        }

        int signAt(int index) {
            return isWithin(index, 0, length - 1) ? signs[index] : NONE;
        }

        boolean isPath() {
            for (int i = 0; i < length; i++) {
                if (!isPathSign(signs[i])) {
                    return false;
                }
            }
            return signAt(0) == '/';
        }

        boolean beginsWith(Text prefix) {
            for (int i = 0; i < prefix.length; i++) {
                if (signAt(i) != prefix.signs[i]) {
                    return false;
                }
            }
            return true;
        }
    }

    private static final class Rule {
        private final Text prefix = new Text();
        private int firstHeader;
        private int lastHeader;
        private final Target[] targets = new Target[TARGET_LIMIT];
        private int targetCount;
        private int mostAttempts;
        private int shadow;

        Rule() {
            for (int i = 0; i < TARGET_LIMIT; i++) {
                targets[i] = new Target();
            }
            begin();
        }

        /** Makes this a rule without prefix and targets, and with what missing parts say. */
        void begin() {
            prefix.clear();
            firstHeader = 0;
            lastHeader = HEADERS - 1;
            targetCount = 0;
            mostAttempts = 1;
            shadow = NONE;
        }

        void copyFrom(Rule other) {
            prefix.clear();
            prefix.putAll(other.prefix);
            firstHeader = other.firstHeader;
            lastHeader = other.lastHeader;
            targetCount = other.targetCount;
            for (int i = 0; i < targetCount; i++) {
                targets[i].copyFrom(other.targets[i]);
            }
            mostAttempts = other.mostAttempts;
            shadow = other.shadow;
        }

        boolean matches(Text path, int header) {
            return isWithin(header, firstHeader, lastHeader) && path.beginsWith(prefix);
        }

        boolean hasTarget(int service) {
            for (int i = 0; i < targetCount; i++) {
                if (targets[i].service == service) {
                    return true;
                }
            }
            return false;
        }

        void takeTarget(int service, int weight) {
            if (targetCount < TARGET_LIMIT) {
                targets[targetCount].begin(service, weight);
                targetCount++;
            }
        }

        void printTo(Text out) {
            out.clear();
            out.putAll(prefix);
            if (firstHeader != 0 || lastHeader != HEADERS - 1) {
                out.put('[');
                out.putDigit(firstHeader);
                out.put('-');
                out.putDigit(lastHeader);
                out.put(']');
            }
            for (int i = 0; i < targetCount; i++) {
                out.put(i == 0 ? '=' : ',');
                out.putDigit(targets[i].service);
                if (targets[i].weight != 1) {
                    out.put(':');
                    out.putDigit(targets[i].weight);
                }
            }
            if (shadow != NONE) {
                out.put('~');
                out.putDigit(shadow);
            }
            if (mostAttempts != 1) {
                out.put('*');
                out.putDigit(mostAttempts);
            }
        }
    }

    /** Reads a rule from a text, and stops at the first character that cannot continue one. */
    private static final class RuleReader {
        private final Text text;
        private final Rule draft = new Rule();
        private int offset;

        RuleReader(Text text) {
            this.text = text;
        }

        /** Reads the text into the draft; returns the error offset, or NONE. */
        int read() {
            offset = 0;
            draft.begin();
            boolean good = readPrefix() && readRange() && readSign('=') && readTargets()
                    && readShadow() && readAttempts() && offset == text.length;
            return good ? NONE : offset;
        }

        private boolean readPrefix() {
            if (text.signAt(0) != '/') {
                return false;
            }
            while (offset < text.length && isPathSign(text.signAt(offset))) {
                draft.prefix.put(text.signAt(offset));
                offset++;
            }
            return true;
        }

        private boolean readRange() {
            if (!readSign('[')) {
                return true;
            }
            int first = readDigit(0, HEADERS - 1);
            if (first == NONE || !readSign('-')) {
                return false;
            }
            int last = readDigit(first, HEADERS - 1);
            draft.firstHeader = first;
            draft.lastHeader = last;
            return last != NONE && readSign(']');
        }

        private boolean readTargets() {
            for (int i = 0; i < TARGET_LIMIT; i++) {
                if (i > 0 && !readSign(',')) {
                    return true;
                }
                if (!readTarget()) {
                    return false;
                }
            }
            return true;
        }

        private boolean readTarget() {
            if (draft.hasTarget(text.signAt(offset) - '0')) {
                return false;
            }
            int service = readDigit(0, SERVICES - 1);
            if (service == NONE) {
                return false;
            }
            int weight = readSign(':') ? readDigit(1, WEIGHT_LIMIT) : 1;
            draft.takeTarget(service, weight);
            return weight != NONE;
        }

        private boolean readShadow() {
            if (!readSign('~')) {
                return true;
            }
            draft.shadow = readDigit(0, SERVICES - 1);
            return draft.shadow != NONE;
        }

        private boolean readAttempts() {
            if (!readSign('*')) {
                return true;
            }
            draft.mostAttempts = readDigit(1, ATTEMPT_LIMIT);
            return draft.mostAttempts != NONE;
        }

        private boolean readSign(char sign) {
            if (text.signAt(offset) != sign) {
                return false;
            }
            offset++;
            return true;
        }

        private int readDigit(int least, int greatest) {
            int digit = text.signAt(offset) - '0';
            if (!isWithin(digit, least, greatest)) {
                return NONE;
            }
            offset++;
            return digit;
        }
    }

    /** The attempts of one request, a row each. */
    private static final class Trail {
        static final int PARTS = 4;

        private final int[][] parts = new int[ATTEMPT_LIMIT][PARTS];
        private int length;

        void add(int backend, boolean succeeded, boolean near, boolean ejected) {
            if (length < ATTEMPT_LIMIT) {
                parts[length][0] = backend;
                parts[length][1] = succeeded ? 1 : 0;
                parts[length][2] = near ? 1 : 0;
                parts[length][3] = ejected ? 1 : 0;
                length++;
            }
        }
    }

    /**
     * The requests and ticks since the mark. A request's rule stands for its path: while the mark
     * lasts, no rule changes, and no condition has a say in which rule is found.
     */
    private static final class Recording {
        private final int[] rules = new int[RECORD_LIMIT];
        private final int[] headers = new int[RECORD_LIMIT];
        private final int[] zones = new int[RECORD_LIMIT];
        private final int[] answers = new int[RECORD_LIMIT];
        private final int[] replies = new int[RECORD_LIMIT];
        private int length;
        private boolean running;

        void start() {
            length = 0;
            running = true;
        }

        void stop() {
            length = 0;
            running = false;
        }

        void addRequest(int rule, int header, int zone, int answer) {
            if (makesRoomFor(1)) {
                rules[length] = rule;
                headers[length] = header;
                zones[length] = zone;
                answers[length] = answer;
                length++;
            }
        }

        void addTicks(int count) {
            if (makesRoomFor(count)) {
                for (int i = 0; i < count; i++) {
                    rules[length] = TICK;
                    length++;
                }
            }
        }

        /** Says whether so many steps are to be recorded; the marking ends if they are too many. */
        private boolean makesRoomFor(int count) {
            if (length + count > RECORD_LIMIT) {
                stop();
            }
            return running;
        }

        int changedAnswers() {
            int changed = 0;
            for (int i = 0; i < length; i++) {
                if (rules[i] != TICK && replies[i] != answers[i]) {
                    changed++;
                }
            }
            return changed;
        }

        int answersByBackends() {
            int byBackends = 0;
            for (int i = 0; i < length; i++) {
                if (rules[i] != TICK && replies[i] >= 0) {
                    byBackends++;
                }
            }
            return byBackends;
        }
    }

    /** Everything that is marked and saved, and the trail of the latest request, which is not. */
    private static final class Mesh {
        private final Backend[] backends = new Backend[BACKEND_LIMIT];
        private int backendCount;
        private final Service[] services = new Service[SERVICES];
        private final Rule[] rules = new Rule[RULE_LIMIT];
        private int ruleCount;
        private int zoneLimit = 70;
        private int time;
        private int requests;
        private int answered;
        private int withoutRoute;
        private int withoutBackend;
        private int failed;
        private int attempts;
        private int shadowAttempts;
        private int ejections;
        private final Trail trail = new Trail();

        Mesh() {
            for (int i = 0; i < BACKEND_LIMIT; i++) {
                backends[i] = new Backend();
            }
            for (int i = 0; i < SERVICES; i++) {
                services[i] = new Service();
            }
            for (int i = 0; i < RULE_LIMIT; i++) {
                rules[i] = new Rule();
            }
        }

        void copyFrom(Mesh other) {
            backendCount = other.backendCount;
            for (int i = 0; i < backendCount; i++) {
                backends[i].copyFrom(other.backends[i]);
            }
            for (int i = 0; i < SERVICES; i++) {
                services[i].copyFrom(other.services[i]);
            }
            ruleCount = other.ruleCount;
            for (int i = 0; i < ruleCount; i++) {
                rules[i].copyFrom(other.rules[i]);
            }
            zoneLimit = other.zoneLimit;
            time = other.time;
            requests = other.requests;
            answered = other.answered;
            withoutRoute = other.withoutRoute;
            withoutBackend = other.withoutBackend;
            failed = other.failed;
            attempts = other.attempts;
            shadowAttempts = other.shadowAttempts;
            ejections = other.ejections;
        }

        boolean hasBackend(int backend) {
            return isWithin(backend, 0, backendCount - 1);
        }

        boolean hasRule(int rule) {
            return isWithin(rule, 0, ruleCount - 1);
        }

        int takeBackend(int service, int zone, int weight) {
            backends[backendCount].begin(service, zone, weight);
            backendCount++;
            return backendCount - 1;
        }

        int takeRule(Rule rule) {
            rules[ruleCount].copyFrom(rule);
            ruleCount++;
            return ruleCount - 1;
        }

        void shiftRule(int from, int to) {
            Rule shifted = rules[from];
            for (int i = from; i < to; i++) {
                rules[i] = rules[i + 1];
            }
            for (int i = from; i > to; i--) {
                rules[i] = rules[i - 1];
            }
            rules[to] = shifted;
        }

        int findRule(Text path, int header) {
            for (int i = 0; i < ruleCount; i++) {
                if (rules[i].matches(path, header)) {
                    return i;
                }
            }
            return NONE;
        }

        void passTick() {
            time++;
            for (int i = 0; i < backendCount; i++) {
                if (backends[i].ejectedFor > 0) {
                    backends[i].ejectedFor--;
                }
            }
        }

        /** Puts a condition on all answers from now on, as a change of the settings. */
        void impose(int condition) {
            if (condition == WITH_LEAST_ZONE_LIMIT) {
                zoneLimit = 1;
            }
            for (int i = 0; i < ruleCount; i++) {
                if (condition == WITHOUT_SHADOWS) {
                    rules[i].shadow = NONE;
                } else if (condition == WITHOUT_FURTHER_ATTEMPTS) {
                    rules[i].mostAttempts = 1;
                }
            }
            for (int i = 0; i < SERVICES; i++) {
                if (condition == WITHOUT_EJECTION) {
                    services[i].failureLimit = UNREACHABLE_LIMIT;
                } else if (condition == WITH_ROUNDS) {
                    services[i].policy = ROUNDS;
                }
            }
        }

        /** Answers a request whose rule is known, or NONE. */
        int answer(int rule, int header, int zone) {
            trail.length = 0;
            int answer = NO_ROUTE;
            if (hasRule(rule)) {
                int service = chooseService(rules[rule]);
                answer = service == NONE ? NO_BACKEND
                        : serve(service, rules[rule].mostAttempts, header, zone);
                mirror(rules[rule].shadow);
            }
            tally(answer);
            return answer;
        }

        private void tally(int answer) {
            requests++;
            switch (answer) {
                case NO_ROUTE: withoutRoute++; break;
                case NO_BACKEND: withoutBackend++; break;
                case FAILED: failed++; break;
                default: answered++; break;
            }
        }

        private int chooseService(Rule rule) {
            for (int i = 0; i < rule.targetCount; i++) {
                rule.targets[i].candidate = hasAvailable(rule.targets[i].service);
            }
            int chosen = Weighted.chooseByWeights(rule.targets, rule.targetCount);
            if (chosen == NONE) {
                return NONE;
            }
            rule.targets[chosen].timesChosen++;
            return rule.targets[chosen].service;
        }

        private boolean hasAvailable(int service) {
            for (int i = 0; i < backendCount; i++) {
                if (backends[i].isAvailableIn(service)) {
                    return true;
                }
            }
            return false;
        }

        private int serve(int service, int mostAttempts, int header, int zone) {
            services[service].chosen++;
            services[service].earnTokens();
            for (int i = 0; i < backendCount; i++) {
                backends[i].attempted = false;
            }
            boolean another = gatherCandidates(service);
            for (int made = 0; made < mostAttempts && another; made++) {
                if (made > 0) {
                    services[service].tokens -= TOKENS_PER_ATTEMPT;
                }
                int backend = pick(service, header, zone);
                if (attempt(backend, zone)) {
                    services[service].answered++;
                    return backend;
                }
                another = gatherCandidates(service)
                        && services[service].tokens >= TOKENS_PER_ATTEMPT;
            }
            return FAILED;
        }

        /** Makes candidates of the available backends not yet attempted; says if there are any. */
        private boolean gatherCandidates(int service) {
            boolean any = false;
            for (int i = 0; i < backendCount; i++) {
                Backend backend = backends[i];
                backend.candidate = !backend.attempted && backend.isAvailableIn(service);
                any = any || backend.candidate;
            }
            return any;
        }

        private int pick(int service, int header, int zone) {
            narrow(service, zone);
            switch (services[service].policy) {
                case LEAST_USED: return pickLeastUsed();
                case STICKY: return pickSticky(services[service], header);
                default: return Weighted.chooseByWeights(backends, backendCount);
            }
        }

        private void narrow(int service, int zone) {
            int near = 0;
            int far = 0;
            int whole = 0;
            for (int i = 0; i < backendCount; i++) {
                Backend backend = backends[i];
                if (backend.candidate && backend.zone == zone) {
                    near += backend.weight;
                } else if (backend.candidate) {
                    far += backend.weight;
                }
                if (backend.isMemberOf(service) && backend.zone == zone) {
                    whole += backend.weight;
                }
            }
            if (near > 0 && far > 0) {
                boolean keepNear = services[service].staysNear(zone, near, whole, zoneLimit);
                for (int i = 0; i < backendCount; i++) {
                    boolean kept = (backends[i].zone == zone) == keepNear;
                    backends[i].candidate = backends[i].candidate && kept;
                }
            }
        }

        private int pickLeastUsed() {
            int least = NONE;
            for (int i = 0; i < backendCount; i++) {
                if (backends[i].candidate
                        && (least == NONE || backends[i].isLessUsedThan(backends[least]))) {
                    least = i;
                }
            }
            return least;
        }

        private int pickSticky(Service service, int header) {
            int kept = service.kept[header];
            if (!hasBackend(kept) || !backends[kept].candidate) {
                kept = Weighted.chooseByWeights(backends, backendCount);
                service.kept[header] = kept;
            }
            return kept;
        }

        private boolean attempt(int number, int zone) {
            if (!hasBackend(number)) {
                return false;
            }
            Backend backend = backends[number];
            boolean succeeded = backend.attempt();
            boolean ejected = !succeeded && isToEject(backend);
            if (ejected) {
                backend.eject(services[backend.service].ejectionTime);
                ejections++;
            }
            attempts++;
            trail.add(number, succeeded, backend.zone == zone, ejected);
            return succeeded;
        }

        private boolean isToEject(Backend failing) {
            Service service = services[failing.service];
            return failing.failureRun >= service.failureLimit
                    && (countMembers(failing.service, true) + 1) * 100
                            <= service.ejectionShare * countMembers(failing.service, false);
        }

        private int countMembers(int service, boolean onlyEjected) {
            int members = 0;
            for (int i = 0; i < backendCount; i++) {
                Backend backend = backends[i];
                if (backend.service == service && backend.weight > 0
                        && (!onlyEjected || backend.ejectedFor > 0)) {
                    members++;
                }
            }
            return members;
        }

        private void mirror(int service) {
            int least = NONE;
            for (int i = 0; i < backendCount; i++) {
                if (backends[i].isMemberOf(service) && (least == NONE
                        || backends[i].shadowAttempts < backends[least].shadowAttempts)) {
                    least = i;
                }
            }
            if (least != NONE) {
                backends[least].attemptAsShadow();
                shadowAttempts++;
            }
        }

        int serviceProperty(int number, int what) {
            Service service = services[number];
            switch (what) {
                case 0: return service.policy;
                case 1: return service.failureLimit;
                case 2: return service.ejectionTime;
                case 3: return service.ejectionShare;
                case 4: return service.ratio;
                case 5: return service.tokens;
                case 6: return countMembers(number, false);
                case 7: return countMembers(number, true);
                case 8: return service.chosen;
                case 9: return service.answered;
                case 10: return service.spills[0];
                case 11: return service.spills[1];
                case 12: return service.spills[2];
                default: return BAD_ARGUMENT;
            }
        }

        int property(int what) {
            switch (what) {
                case 0: return backendCount;
                case 1: return ruleCount;
                case 2: return requests;
                case 3: return answered;
                case 4: return withoutRoute;
                case 5: return withoutBackend;
                case 6: return failed;
                case 7: return attempts;
                case 8: return shadowAttempts;
                case 9: return ejections;
                case 10: return time;
                default: return BAD_ARGUMENT;
            }
        }
    }
}
