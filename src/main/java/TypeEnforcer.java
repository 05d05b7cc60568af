/** Decides accesses by a staged and an active policy of types and domains. */
public final class TypeEnforcer {
  public static final int CLASS_FILE = 0, CLASS_DIR = 1, CLASS_PROCESS = 2, CLASS_SOCKET = 3;
  public static final int P_READ = 1, P_WRITE = 2, P_EXECUTE = 4, P_CREATE = 8, P_TRANSITION = 16,
      P_ENTRYPOINT = 32, P_ADD_NAME = 64, P_SIGNAL = 128;
  public static final int ATTR_BASE = 64;
  public static final int NUM_ATTRS = 8;
  public static final int SELF = 99;
  public static final int MAX_ALLOW = 24, MAX_NEVER = 6, MAX_TRANS = 12, MAX_PROCS = 8, MAX_OBJECTS = 16;
  public static final int WHICH_ACTIVE = 0, WHICH_STAGED = 1;
  public static final int ERR_ARG = -1, ERR_FULL = -2, ERR_NEVERALLOW = -3, ERR_DENIED = -4, NONE = -5;
  public static final int PI_SEQ = 0, PI_VIOL_INDEX = 1, PI_VIOL_SRC = 2, PI_VIOL_TGT = 3, PI_VIOL_PERMS = 4,
      PI_STAGED_ALLOW = 5, PI_STAGED_NEVER = 6, PI_STAGED_TRANS = 7, PI_ACTIVE_ALLOW = 8,
      PI_ACTIVE_NEVER = 9, PI_ACTIVE_TRANS = 10, PI_TYPES = 11, PI_PROCS = 12, PI_OBJECTS = 13;
  public static final int Q_MEMBER_ACTIVE = 0, Q_MEMBER_STAGED = 1, Q_TRANS_ACTIVE = 2, Q_TRANS_STAGED = 3;
  public static final int L_PROC_DOMAIN = 0, L_OBJ_TYPE = 1, L_OBJ_CLASS = 2;
  public static final int AU_SRC = 0, AU_TGT = 1, AU_CLASS = 2, AU_PERMS = 3, AU_COUNT = 4,
      AU_HELD = 5, AU_TOTAL = 6;

  private static final int MIN_TYPES = 4, MAX_TYPES = 12;
  private static final int MIN_AUDIT = 4, MAX_AUDIT = 16;
  private static final int NUM_CLASSES = 4;
  private static final int ALL_PERMS = 255;
  private static final int NUM_POLICIES = 2;

  // The three rule lists of a policy share one layout, so that appending,
  // matching and copying are each written once; every list gets the room of
  // the longest one.
  private static final int LIST_ALLOW = 0, LIST_NEVER = 1, LIST_TRANS = 2, NUM_LISTS = 3;
  private static final int LIST_ROOM = MAX_ALLOW;
  private static final int ALL_LISTS = NUM_POLICIES * NUM_LISTS;
  private static final int ALL_RULES = ALL_LISTS * LIST_ROOM;
  private static final int ALL_MEMBERS = NUM_POLICIES * MAX_TYPES;

  private final int typeCount;
  private final int auditCapacity;

  // One bit for each attribute, at which * MAX_TYPES + type.
  private final int[] memberBits = new int[ALL_MEMBERS];

  private final int[] ruleCount = new int[ALL_LISTS];
  private final int[] ruleSrc = new int[ALL_RULES];
  private final int[] ruleTgt = new int[ALL_RULES];
  private final int[] ruleCls = new int[ALL_RULES];
  // The perms of an allow or neverallow rule, the new type of a transition rule.
  private final int[] ruleValue = new int[ALL_RULES];

  private int seq = 0;
  private int violIndex = NONE;
  private int violSrc = NONE;
  private int violTgt = NONE;
  private int violPerms = NONE;

  private int procCount = 0;
  private final int[] procDomain = new int[MAX_PROCS];

  private int objCount = 0;
  private final int[] objType = new int[MAX_OBJECTS];
  private final int[] objCls = new int[MAX_OBJECTS];

  // Entries are kept oldest first, so an entry's place is its number.
  private int auditHeld = 0;
  private int auditTotal = 0;
  private final int[] auditSrc = new int[MAX_AUDIT];
  private final int[] auditTgt = new int[MAX_AUDIT];
  private final int[] auditCls = new int[MAX_AUDIT];
  private final int[] auditPerms = new int[MAX_AUDIT];
  private final int[] auditCount = new int[MAX_AUDIT];

  public TypeEnforcer(int types, int auditSize) {
    typeCount = clamp(types, MIN_TYPES, MAX_TYPES);
    auditCapacity = clamp(auditSize, MIN_AUDIT, MAX_AUDIT);
  }

  public int stageMember(int type, int attr) {
    if (!isType(type) || !isAttribute(attr)) {
      return ERR_ARG;
    }
    if (isMember(WHICH_STAGED, type, attr)) {
      return 0;
    }
    memberBits[WHICH_STAGED * MAX_TYPES + type] |= 1 << attr;
    return 1;
  }

  public int stageAllow(int src, int tgt, int cls, int perms) {
    if (!isPermRule(src, tgt, cls, perms)) {
      return ERR_ARG;
    }
    return appendStaged(LIST_ALLOW, MAX_ALLOW, src, tgt, cls, perms);
  }

  public int stageNeverallow(int src, int tgt, int cls, int perms) {
    if (!isPermRule(src, tgt, cls, perms)) {
      return ERR_ARG;
    }
    return appendStaged(LIST_NEVER, MAX_NEVER, src, tgt, cls, perms);
  }

  public int stageTransition(int src, int tgt, int cls, int newType) {
    if (!isTypeName(src) || !isTypeName(tgt) || !isClass(cls) || !isType(newType)) {
      return ERR_ARG;
    }
    return appendStaged(LIST_TRANS, MAX_TRANS, src, tgt, cls, newType);
  }

  public void stageClear() {
    for (int type = 0; type < MAX_TYPES; type++) {
      memberBits[WHICH_STAGED * MAX_TYPES + type] = 0;
    }
    for (int list = 0; list < NUM_LISTS; list++) {
      ruleCount[listPlace(WHICH_STAGED, list)] = 0;
    }
  }

  public int commit() {
    int assertions = countRules(WHICH_STAGED, LIST_NEVER);
    for (int n = 0; n < assertions; n++) {
      for (int s = 0; s < typeCount; s++) {
        for (int t = 0; t < typeCount; t++) {
          int broken = brokenPerms(n, s, t);
          if (broken != 0) {
            setViolation(n, s, t, broken);
            return ERR_NEVERALLOW;
          }
        }
      }
    }
    copyMembersToActive();
    copyRulesToActive();
    setViolation(NONE, NONE, NONE, NONE);
    seq++;
    return seq;
  }

  public int policyInfo(int field) {
    switch (field) {
      case PI_SEQ: return seq;
      case PI_VIOL_INDEX: return violIndex;
      case PI_VIOL_SRC: return violSrc;
      case PI_VIOL_TGT: return violTgt;
      case PI_VIOL_PERMS: return violPerms;
      case PI_STAGED_ALLOW: return countRules(WHICH_STAGED, LIST_ALLOW);
      case PI_STAGED_NEVER: return countRules(WHICH_STAGED, LIST_NEVER);
      case PI_STAGED_TRANS: return countRules(WHICH_STAGED, LIST_TRANS);
      case PI_ACTIVE_ALLOW: return countRules(WHICH_ACTIVE, LIST_ALLOW);
      case PI_ACTIVE_NEVER: return countRules(WHICH_ACTIVE, LIST_NEVER);
      case PI_ACTIVE_TRANS: return countRules(WHICH_ACTIVE, LIST_TRANS);
      case PI_TYPES: return typeCount;
      case PI_PROCS: return procCount;
      case PI_OBJECTS: return objCount;
      default: return ERR_ARG;
    }
  }

  public int policyQuery(int kind, int a, int b, int c) {
    switch (kind) {
      case Q_MEMBER_ACTIVE: return queryMember(WHICH_ACTIVE, a, b);
      case Q_MEMBER_STAGED: return queryMember(WHICH_STAGED, a, b);
      case Q_TRANS_ACTIVE: return queryTransition(WHICH_ACTIVE, a, b, c);
      case Q_TRANS_STAGED: return queryTransition(WHICH_STAGED, a, b, c);
      default: return ERR_ARG;
    }
  }

  public int decide(int src, int tgt, int cls, int which) {
    if (!isType(src) || !isType(tgt) || !isClass(cls)) {
      return ERR_ARG;
    }
    if (which != WHICH_ACTIVE && which != WHICH_STAGED) {
      return ERR_ARG;
    }
    return allowedPerms(which, src, tgt, cls);
  }

  public int spawn(int type) {
    if (!isType(type)) {
      return ERR_ARG;
    }
    if (procCount >= MAX_PROCS) {
      return ERR_FULL;
    }
    int pid = procCount;
    procDomain[pid] = type;
    procCount++;
    return pid;
  }

  public int makeObject(int type, int cls) {
    if (!isType(type) || !isClass(cls)) {
      return ERR_ARG;
    }
    if (objCount >= MAX_OBJECTS) {
      return ERR_FULL;
    }
    return addObject(type, cls);
  }

  public int exec(int pid, int oid) {
    if (!isProcess(pid) || !isObjectOfClass(oid, CLASS_FILE)) {
      return ERR_ARG;
    }
    int domain = procDomain[pid];
    int file = objType[oid];
    if (lacks(domain, file, CLASS_FILE, P_EXECUTE)) {
      return deny(domain, file, CLASS_FILE, P_EXECUTE);
    }
    int next = transitionOr(domain, file, CLASS_PROCESS, domain);
    if (next != domain) {
      if (lacks(domain, next, CLASS_PROCESS, P_TRANSITION)) {
        return deny(domain, next, CLASS_PROCESS, P_TRANSITION);
      }
      if (lacks(next, file, CLASS_FILE, P_ENTRYPOINT)) {
        return deny(next, file, CLASS_FILE, P_ENTRYPOINT);
      }
    }
    procDomain[pid] = next;
    return next;
  }

  public int create(int pid, int dirOid, int cls) {
    if (!isProcess(pid) || !isObjectOfClass(dirOid, CLASS_DIR)) {
      return ERR_ARG;
    }
    if (!isClass(cls) || cls == CLASS_PROCESS) {
      return ERR_ARG;
    }
    if (objCount >= MAX_OBJECTS) {
      return ERR_FULL;
    }
    int domain = procDomain[pid];
    int parent = objType[dirOid];
    if (lacks(domain, parent, CLASS_DIR, P_ADD_NAME)) {
      return deny(domain, parent, CLASS_DIR, P_ADD_NAME);
    }
    int type = transitionOr(domain, parent, cls, parent);
    if (lacks(domain, type, cls, P_CREATE)) {
      return deny(domain, type, cls, P_CREATE);
    }
    return addObject(type, cls);
  }

  public int check(int pid, int oid, int perms) {
    if (!isProcess(pid) || !isObject(oid) || !isPerms(perms)) {
      return ERR_ARG;
    }
    int domain = procDomain[pid];
    int type = objType[oid];
    int cls = objCls[oid];
    int missing = perms & ~allowedPerms(WHICH_ACTIVE, domain, type, cls);
    if (missing != 0) {
      recordDenial(domain, type, cls, missing);
    }
    return missing;
  }

  public int label(int kind, int id) {
    switch (kind) {
      case L_PROC_DOMAIN: return isProcess(id) ? procDomain[id] : ERR_ARG;
      case L_OBJ_TYPE: return isObject(id) ? objType[id] : ERR_ARG;
      case L_OBJ_CLASS: return isObject(id) ? objCls[id] : ERR_ARG;
      default: return ERR_ARG;
    }
  }

  public int audit(int i, int field) {
    if (field == AU_HELD) {
      return auditHeld;
    }
    if (field == AU_TOTAL) {
      return auditTotal;
    }
    if (i < 0 || i >= auditHeld) {
      return ERR_ARG;
    }
    switch (field) {
      case AU_SRC: return auditSrc[i];
      case AU_TGT: return auditTgt[i];
      case AU_CLASS: return auditCls[i];
      case AU_PERMS: return auditPerms[i];
      case AU_COUNT: return auditCount[i];
      default: return ERR_ARG;
    }
  }

  private static int clamp(int value, int low, int high) {
    if (value < low) {
      return low;
    }
    return value > high ? high : value;
  }

  private boolean isType(int type) {
    return type >= 0 && type < typeCount;
  }

  private static boolean isAttribute(int attr) {
    return attr >= 0 && attr < NUM_ATTRS;
  }

  private static boolean isClass(int cls) {
    return cls >= 0 && cls < NUM_CLASSES;
  }

  private static boolean isPerms(int perms) {
    return perms >= 1 && perms <= ALL_PERMS;
  }

  private boolean isTypeName(int name) {
    return isType(name) || (name >= ATTR_BASE && name < ATTR_BASE + NUM_ATTRS);
  }

  private boolean isPermRule(int src, int tgt, int cls, int perms) {
    return isTypeName(src) && (tgt == SELF || isTypeName(tgt)) && isClass(cls) && isPerms(perms);
  }

  private boolean isProcess(int pid) {
    return pid >= 0 && pid < procCount;
  }

  private boolean isObject(int oid) {
    return oid >= 0 && oid < objCount;
  }

  private boolean isObjectOfClass(int oid, int cls) {
    return isObject(oid) && objCls[oid] == cls;
  }

  private static int listPlace(int which, int list) {
    return which * NUM_LISTS + list;
  }

  private static int firstRule(int which, int list) {
    return listPlace(which, list) * LIST_ROOM;
  }

  private int countRules(int which, int list) {
    return ruleCount[listPlace(which, list)];
  }

  private boolean isMember(int which, int type, int attr) {
    return ((memberBits[which * MAX_TYPES + type] >> attr) & 1) == 1;
  }

  private int appendStaged(int list, int limit, int src, int tgt, int cls, int value) {
    int index = countRules(WHICH_STAGED, list);
    if (index >= limit) {
      return ERR_FULL;
    }
    int rule = firstRule(WHICH_STAGED, list) + index;
    ruleSrc[rule] = src;
    ruleTgt[rule] = tgt;
    ruleCls[rule] = cls;
    ruleValue[rule] = value;
    ruleCount[listPlace(WHICH_STAGED, list)] = index + 1;
    return index;
  }

  private boolean nameMatches(int which, int name, int type, int source) {
    if (name == SELF) {
      return type == source;
    }
    if (name >= ATTR_BASE) {
      return isMember(which, type, name - ATTR_BASE);
    }
    return name == type;
  }

  private boolean ruleMatches(int which, int rule, int s, int t, int c) {
    return ruleCls[rule] == c
        && nameMatches(which, ruleSrc[rule], s, s)
        && nameMatches(which, ruleTgt[rule], t, s);
  }

  private int allowedPerms(int which, int s, int t, int c) {
    int first = firstRule(which, LIST_ALLOW);
    int count = countRules(which, LIST_ALLOW);
    int perms = 0;
    for (int i = 0; i < count; i++) {
      if (ruleMatches(which, first + i, s, t, c)) {
        perms |= ruleValue[first + i];
      }
    }
    return perms;
  }

  private int transitionType(int which, int s, int t, int c) {
    int first = firstRule(which, LIST_TRANS);
    int count = countRules(which, LIST_TRANS);
    for (int i = 0; i < count; i++) {
      if (ruleMatches(which, first + i, s, t, c)) {
        return ruleValue[first + i];
      }
    }
    return NONE;
  }

  private int transitionOr(int s, int t, int c, int otherwise) {
    int type = transitionType(WHICH_ACTIVE, s, t, c);
    return type == NONE ? otherwise : type;
  }

  private int queryMember(int which, int type, int attr) {
    if (!isType(type) || !isAttribute(attr)) {
      return ERR_ARG;
    }
    return isMember(which, type, attr) ? 1 : 0;
  }

  private int queryTransition(int which, int s, int t, int c) {
    if (!isType(s) || !isType(t) || !isClass(c)) {
      return ERR_ARG;
    }
    return transitionType(which, s, t, c);
  }

  private int brokenPerms(int n, int s, int t) {
    int rule = firstRule(WHICH_STAGED, LIST_NEVER) + n;
    int cls = ruleCls[rule];
    if (!ruleMatches(WHICH_STAGED, rule, s, t, cls)) {
      return 0;
    }
    return allowedPerms(WHICH_STAGED, s, t, cls) & ruleValue[rule];
  }

  private void setViolation(int index, int src, int tgt, int perms) {
    violIndex = index;
    violSrc = src;
    violTgt = tgt;
    violPerms = perms;
  }

  private void copyMembersToActive() {
    for (int type = 0; type < MAX_TYPES; type++) {
      memberBits[WHICH_ACTIVE * MAX_TYPES + type] = memberBits[WHICH_STAGED * MAX_TYPES + type];
    }
  }

  private void copyRulesToActive() {
    for (int list = 0; list < NUM_LISTS; list++) {
      int count = countRules(WHICH_STAGED, list);
      int to = firstRule(WHICH_ACTIVE, list);
      int from = firstRule(WHICH_STAGED, list);
      for (int i = 0; i < count; i++) {
        ruleSrc[to + i] = ruleSrc[from + i];
        ruleTgt[to + i] = ruleTgt[from + i];
        ruleCls[to + i] = ruleCls[from + i];
        ruleValue[to + i] = ruleValue[from + i];
      }
      ruleCount[listPlace(WHICH_ACTIVE, list)] = count;
    }
  }

  private int addObject(int type, int cls) {
    int oid = objCount;
    objType[oid] = type;
    objCls[oid] = cls;
    objCount++;
    return oid;
  }

  private boolean lacks(int s, int t, int c, int perm) {
    return (allowedPerms(WHICH_ACTIVE, s, t, c) & perm) == 0;
  }

  private int deny(int s, int t, int c, int perm) {
    recordDenial(s, t, c, perm);
    return ERR_DENIED;
  }

  private void recordDenial(int s, int t, int c, int perms) {
    auditTotal++;
    int held = findEntry(s, t, c, perms);
    if (held != NONE) {
      auditCount[held]++;
      return;
    }
    if (auditHeld >= auditCapacity) {
      dropOldestEntry();
    }
    auditSrc[auditHeld] = s;
    auditTgt[auditHeld] = t;
    auditCls[auditHeld] = c;
    auditPerms[auditHeld] = perms;
    auditCount[auditHeld] = 1;
    auditHeld++;
  }

  private int findEntry(int s, int t, int c, int perms) {
    for (int i = 0; i < auditHeld; i++) {
      if (auditSrc[i] == s && auditTgt[i] == t && auditCls[i] == c && auditPerms[i] == perms) {
        return i;
      }
    }
    return NONE;
  }

  private void dropOldestEntry() {
    for (int i = 1; i < auditHeld; i++) {
      auditSrc[i - 1] = auditSrc[i];
      auditTgt[i - 1] = auditTgt[i];
      auditCls[i - 1] = auditCls[i];
      auditPerms[i - 1] = auditPerms[i];
      auditCount[i - 1] = auditCount[i];
    }
    auditHeld--;
  }
}
